/-! the class reads laws -/
def RPo (tp : Nat → Nat) (n law : Nat) (r : PR) (h h' : AH) : Prop := FRe h h' ∧ match r with
  | .ok q => RdS tp n law q.1 q.2 h'
  | .error e => RdB tp n e h'
theorem RPo.tr {tp : Nat → Nat} {n law : Nat} {r : PR} {h0 h h' : AH} (P : RPo tp n law r h h') (e : FRe h0 h) : RPo tp n law r h0 h' := ⟨e.trans P.1, P.2⟩
def XC0 (tp : Nat → Nat) (n law f : Nat) : Prop := ∀ deep a cs h, deep ≤ 6 → RdS tp n law a cs h → cs.length + 1 ≤ a → 7 * (n - a) + 1 ≤ f → GV (2 * (6 - deep) + 3) m_Re_atom [.ref 36, .int (kI (deep : Nat))] h (RPo tp n law (PP tp n law f 0 deep a cs) h)
def XC3 (tp : Nat → Nat) (n law f : Nat) : Prop := ∀ deep a cs h, deep ≤ 6 → RdS tp n law a cs h → cs.length + 1 ≤ a → 7 * (n - a) + 3 ≤ f → GV (2 * (6 - deep) + 4) m_Re_sum [.ref 36, .int (kI (deep : Nat))] h (RPo tp n law (PP tp n law f 3 deep a cs) h)
def XC5 (tp : Nat → Nat) (n law f : Nat) : Prop := ∀ deep a cs h, deep ≤ 6 → RdS tp n law a cs h → cs.length + 1 ≤ a → 7 * (n - a) + 4 ≤ f → GV (2 * (6 - deep) + 5) m_Re_unit [.ref 36, .int (kI (deep : Nat))] h (RPo tp n law (PP tp n law f 5 deep a cs) h)
def XC9 (tp : Nat → Nat) (n law f : Nat) : Prop := ∀ deep a cs h, deep ≤ 6 → RdS tp n law a cs h → cs.length + 1 ≤ a → 7 * (n - a) + 6 ≤ f → GV (2 * (6 - deep) + 6) m_Re_truth [.ref 36, .int (kI (deep : Nat))] h (RPo tp n law (PP tp n law f 9 deep a cs) h)
theorem Re_atom_72g {tp : Nat → Nat} {n law a d : Nat} {cs : List Nat} {h h0 : AH} (S : RdS tp n law a cs h) (e0 : FRe h0 h) (an : a < n) (l9 : cs.length < 900) {c : Nat} (hc : c < 2000) (hd : 1 ≤ d) : Safe d m_Re_atom (72, [.ref 36, unV, unV], [.int (kI (c : Nat))], h) (fun v h' => Eqv v none ∧ RPo tp n law (.ok (nxA tp n a, cs ++ [c])) h0 h') := by
  have F := S.1.R.F
  refine s_Re_atom_72 ?_
  rw [if_pos (by rw [Bool.not_eq_true', decide_eq_false_iff_not, kI_inj (by omega) (by omega) (by omega) (by omega)]; omega), kd_36 F]
  refine ⟨rfl, ?_⟩
  have em := Re_emit_g S l9 c
  rw [xc_lo (show c < 3000 by omega)] at em
  refine GV.use em hd (fun h1 e1 => ?_)
  have F1 := e1.2.1.R.F
  rw [rv_36_0 F1, kd_36 F1, kd_37 F1]
  refine ⟨rfl, rfl, GV.use (Re_adv e1.2.1 an) hd (fun h2 e2 => ?_)⟩
  exact ⟨rfl, (e0.trans e1.1).trans (re_of e2.1), e2.2, e1.2.2.fa e2.1⟩
theorem RdS.adv {tp : Nat → Nat} {n law a : Nat} {cs : List Nat} {h : AH} (S : RdS tp n law a cs h) (an : a < n) : GV 1 m_To_advance [.ref 37] h (fun h' => FRe h h' ∧ RdS tp n law (nxA tp n a) cs h') := by
  obtain ⟨h', hr, e, L⟩ := Re_adv S.1 an
  exact ⟨h', hr, re_of e, L, S.2.fa e⟩
theorem RdS.exp {tp : Nat → Nat} {n law a k c : Nat} {cs : List Nat} {h : AH} (S : RdS tp n law a cs h) (hk : k < 42) (v : vkB k = true) (k23 : k ≠ 23) (ec : cdT k 0 = c) (k24 : k ≠ 24) : GV 2 m_Re_expect [.ref 36, .int (kI (c : Nat))] h (RPo tp n law (if tKd tp n a = k then .ok (nxA tp n a, cs) else .error (fkF tp n a 2, a)) h) := by
  by_cases q : tKd tp n a = k
  · obtain ⟨h', hr, e, L⟩ := Re_expect_y S.1 hk v k23 ec k24 q
    rw [if_pos q]
    exact ⟨h', hr, re_of e, L, S.2.fa e⟩
  · obtain ⟨h', hr, e, L⟩ := Re_expect_n S.1 hk v k23 ec q
    rw [if_neg q]
    exact ⟨h', hr, re_of' e, L⟩
theorem X_c0 {tp : Nat → Nat} {n law F : Nat} (hn : n ≤ 900) (hl : law ≤ 1) (H3 : ∀ g, g < F → XC3 tp n law g) : XC0 tp n law F := by
  intro deep a cs h hd S le hf
  have Fx := S.1.R.F
  have an := S.1.an
  have cb := cdX_b (tp := tp) (n := n) (a := a)
  obtain ⟨f, ef⟩ : ∃ f, F = f + 1 := ⟨F - 1, by omega⟩
  subst ef
  refine GVo (s_Re_atom_0 ?_)
  rw [rv_36_0 Fx, kd_36 Fx, kd_37 Fx, S.1.K.c]
  refine ⟨rfl, rfl, ?_⟩
  rw [PP]
  by_cases q35 : tKd tp n a = 35
  · have a1 := kd_n (tp := tp) (n := n) (a := a) (by omega)
    have nb := nxA_b (tp := tp) a1
    rw [if_neg (by rw [show (40 : Int) = ((40 : Nat) : Int) from rfl, cd_nn (k := 35) (c := 40) (by omega) (by decide) (by omega) rfl]; exact fun z => z q35)]
    refine ⟨rfl, ?_⟩
    have w35 : wdO law (tKd tp n a) = none := by
      rw [q35]
      rcases (by omega : law = 0 ∨ law = 1) with z | z <;> subst z <;> rfl
    rw [if_neg (show ¬ tKd tp n a = 23 by omega), w35]
    dsimp only
    rw [if_pos q35]
    by_cases q6 : deep = 6
    · rw [if_pos q6]
      subst q6
      refine GI.use (Re_mayNest_n S.1 (by omega)) (by omega) (fun h1 e1 => ?_)
      rw [if_pos (by decide)]
      exact ⟨rfl, re_of' e1.1, e1.2⟩
    · rw [if_neg q6]
      refine GI.use (Re_mayNest_y S.1 a1 (by omega)) (by omega) (fun h1 e1 => ?_)
      have S1 : RdS tp n law (nxA tp n a) cs h1 := ⟨e1.2, S.2.fa e1.1⟩
      rw [if_neg (by decide), kd_36 e1.2.R.F, kI_add]
      refine ⟨rfl, ?_⟩
      refine GV.use (H3 f (by omega) (deep + 1) (nxA tp n a) cs h1 (by omega) S1 (by omega) (by omega)) (by omega) (fun h2 e2 => ?_)
      have e2' := e2.tr (re_of e1.1)
      cases hr : PP tp n law f 3 (deep + 1) (nxA tp n a) cs with
      | error x =>
        rw [hr] at e2'
        have B : RdB tp n x h2 := e2'.2
        rw [kd_36 B.R.F, show (41 : Int) = ((41 : Nat) : Int) from rfl, Re_expect_b B (by omega)]
        exact ⟨rfl, rfl, e2'.1, B⟩
      | ok p =>
        rw [hr] at e2'
        have S2 : RdS tp n law p.1 p.2 h2 := e2'.2
        rw [kd_36 S2.1.R.F]
        refine ⟨rfl, GV.use (S2.exp (k := 36) (c := 41) (by omega) (by decide) (by omega) rfl (by omega)) (by omega) (fun h3 e3 => ⟨rfl, e3.tr e2'.1⟩)⟩
  · rw [if_pos (by rw [show (40 : Int) = ((40 : Nat) : Int) from rfl, cd_nn (k := 35) (c := 40) (by omega) (by decide) (by omega) rfl]; exact q35)]
    refine ⟨rfl, rfl, ?_⟩
    by_cases q23 : tKd tp n a = 23
    · have tb := tNm_b q23
      have a1 := kd_n (tp := tp) (n := n) (a := a) (by omega)
      rw [if_neg (by rw [decide_eq_true_eq, kI_lt (by omega) (by omega) (by omega) (by omega)]; have := cdX_23.mpr q23; omega), kI_sub, cdX_n q23, if_pos q23, show ((1000 + tNm tp n a : Nat) : Int) - 1000 = ((tNm tp n a : Nat) : Int) by omega]
      exact ⟨rfl, rfl, Re_atom_72g S (Fr_rfl _ _ _) a1 (by omega) (by omega) (by omega)⟩
    · rw [if_pos (by rw [decide_eq_true_eq, kI_lt (by omega) (by omega) (by omega) (by omega)]; have : ¬ 1000 ≤ cdX tp n a := fun z => q23 (cdX_23.mp z); omega), Re_fact_c Fx hl S.2.my q23 (by omega), if_neg q23]
      refine ⟨rfl, rfl, rfl, ?_⟩
      unfold fctF
      cases hw : wdO law (tKd tp n a) with
      | some w =>
        have ws := wdO_some hw
        dsimp only
        exact Re_atom_72g S (Fr_rfl _ _ _) (kd_n ws.2.1) (by omega) (by omega) (by omega)
      | none =>
        dsimp only
        rw [if_neg q35]
        refine s_Re_atom_72 ?_
        rw [if_neg (by decide), kd_36 Fx]
        exact ⟨rfl, GV.use (Re_refuse_g S.1 (k := 2) (by omega) (by omega)) (by omega) (fun h1 e1 => ⟨rfl, re_of' e1.1, e1.2⟩)⟩
/-! sums -/
theorem Re_sum_4b {tp : Nat → Nat} {n d : Nat} {r : Nat × Nat} {h : AH} (B : RdB tp n r h) {x y z : Int32} {Q : Option Value → AH → Prop} (q : Q none h) : Safe d m_Re_sum (4, [.ref 36, .int x, .int y, .int z, unV], [], h) Q := by
  refine s_Re_sum_4 ?_
  rw [if_pos B.nz.1, kd_36 B.R.F]
  split
  · exact q
  · exact ⟨rfl, q⟩
theorem Re_sum_b {tp : Nat → Nat} {n d : Nat} {r : Nat × Nat} {h : AH} (B : RdB tp n r h) {x : Int32} (hd : 1 ≤ d) {K : AH → Prop} : CallV d m_Re_sum [.ref 36, .int x] h K ↔ K h := by
  refine Ret.V (d := 1) (ret_of (s_Re_sum_0 ?_)) hd
  exact Re_sum_4b B ⟨rfl, rfl⟩
theorem Re_sum_87b {tp : Nat → Nat} {n d : Nat} {r : Nat × Nat} {h h0 : AH} (B : RdB tp n r h) (e0 : FRe h0 h) (hd : 1 ≤ d) {x z : Int32} {Q : Option Value → AH → Prop} (q : ∀ h', FRe h0 h' → RdB tp n r h' → Q none h') : Safe d m_Re_sum (87, [.ref 36, .int x, unV, .int z, unV], [], h) Q := by
  have F := B.R.F
  have s133 : ∀ y : Int32, Safe d m_Re_sum (133, [.ref 36, .int x, unV, .int z, unV], [.int y], h) Q := fun y => by
    refine s_Re_sum_133 ?_
    rw [rv_36_0 F, kd_36 F, kd_37 F]
    refine ⟨rfl, rfl, GV.use (Re_adv_b B) hd (fun h1 e1 => ?_)⟩
    exact Re_sum_4b e1.2 (q h1 (e0.trans (re_of e1.1)) e1.2)
  have s112 : Safe d m_Re_sum (112, [.ref 36, .int x, unV, .int z, unV], [], h) Q := by
    refine s_Re_sum_112 ?_
    rw [rv_36_0 F, kd_36 F, kd_37 F]
    refine ⟨rfl, rfl, ?_⟩
    split
    · exact s133 _
    · exact s133 _
  refine s_Re_sum_87 ?_
  rw [rv_36_0 F, kd_36 F, kd_37 F]
  refine ⟨rfl, rfl, ?_⟩
  split
  · exact s112
  · refine ⟨rfl, rfl, ?_⟩
    split
    · exact s112
    · exact q h e0 B
theorem Re_sum_26b {tp : Nat → Nat} {n d : Nat} {r : Nat × Nat} {h h0 : AH} (B : RdB tp n r h) (e0 : FRe h0 h) (hd : 1 ≤ d) {x y z w : Int32} {Q : Option Value → AH → Prop} (q : ∀ h', FRe h0 h' → RdB tp n r h' → Q none h') : Safe d m_Re_sum (78, [.ref 36, .int x, .int y, .int z, unV], [], h) Q ∧ Safe d m_Re_sum (26, [.ref 36, .int x, .int y, .int z, .int w], [], h) Q := by
  have F := B.R.F
  have s78 : Safe d m_Re_sum (78, [.ref 36, .int x, .int y, .int z, unV], [], h) Q := by
    refine s_Re_sum_78 ?_
    split
    · exact Re_sum_87b B e0 hd q
    · rw [kd_36 F]
      refine ⟨rfl, GV.use (Re_emit_b B y) hd (fun h1 e1 => ?_)⟩
      exact Re_sum_87b e1.2 (e0.trans e1.1) hd q
  refine ⟨s78, s_Re_sum_26 ?_⟩
  rw [if_pos B.nz.1, kd_36 F]
  split
  · exact s78
  · exact ⟨rfl, s78⟩
/-- the factors that follow -/
theorem X_l2 {tp : Nat → Nat} {n law F deep d : Nat} (hn : n ≤ 900) (hdp : deep ≤ 6) (hd : 2 * (6 - deep) + 3 ≤ d) (H0 : ∀ g, g < F → XC0 tp n law g) {h0 : AH} {i2 i3 : Int32} {Q : Option Value → AH → Prop} : ∀ f a cs h j, f ≤ F → RdS tp n law a cs h → FRe h0 h → cs.length + 1 ≤ a → 7 * (n - a) + 1 ≤ f → j + 1 ≤ a → (∀ h', RPo tp n law (PP tp n law f 2 deep a cs) h0 h' → Safe d m_Re_sum (78, [.ref 36, .int (kI (deep : Nat)), .int i2, .int i3, unV], [], h') Q) → Safe d m_Re_sum (26, [.ref 36, .int (kI (deep : Nat)), .int i2, .int i3, .int (kI (j : Nat))], [], h) Q := by
  have dead : ∀ h r (w : Int32), RdB tp n r h → Safe d m_Re_sum (78, [.ref 36, .int (kI (deep : Nat)), .int i2, .int i3, unV], [], h) Q → Safe d m_Re_sum (26, [.ref 36, .int (kI (deep : Nat)), .int i2, .int i3, .int w], [], h) Q := fun h r w B s => by
    refine s_Re_sum_26 ?_
    rw [if_pos B.nz.1, kd_36 B.R.F]
    split
    · exact s
    · exact ⟨rfl, s⟩
  intro f
  induction f with
  | zero => intro a cs h j _ _ _ _ hf; omega
  | succ f ih =>
    intro a cs h j fF S e0 le hf hj K
    have Fx := S.1.R.F
    have an := S.1.an
    refine s_Re_sum_26 ?_
    rw [if_neg (by rw [decide_eq_true_eq, kI_le (by omega) (by omega) (by omega) (by omega)]; omega), if_neg S.1.nz, rv_36_0 Fx, kd_36 Fx, kd_37 Fx, S.1.K.c]
    refine ⟨rfl, rfl, rfl, ?_⟩
    rw [PP] at K
    by_cases q : tKd tp n a = 34
    · have a1 := kd_n (tp := tp) (n := n) (a := a) (by omega)
      have nb := nxA_b (tp := tp) a1
      rw [if_neg (by rw [show (42 : Int) = ((42 : Nat) : Int) from rfl, cd_nn (k := 34) (c := 42) (by omega) (by decide) (by omega) rfl]; exact fun z => z q)]
      rw [if_pos q] at K
      refine ⟨rfl, rfl, GV.use (S.adv a1) (by omega) (fun h1 e1 => ?_)⟩
      rw [kd_36 e1.2.1.R.F]
      refine ⟨rfl, GV.use (H0 f (by omega) deep (nxA tp n a) cs h1 hdp e1.2 (by omega) (by omega)) hd (fun h2 e2 => ?_)⟩
      have e2' := e2.tr (e0.trans e1.1)
      cases hr : PP tp n law f 0 deep (nxA tp n a) cs with
      | error x =>
        rw [hr] at e2' K
        have B : RdB tp n x h2 := e2'.2
        rw [kd_36 B.R.F]
        refine ⟨rfl, GV.use (Re_emit_b B _) (by omega) (fun h3 e3 => ?_)⟩
        exact dead h3 x _ e3.2 (K h3 ⟨e2'.1.trans e3.1, e3.2⟩)
      | ok p =>
        rw [hr] at e2' K
        have S2 : RdS tp n law p.1 p.2 h2 := e2'.2
        have g := PP_go f 0 deep (nxA tp n a) cs p.1 p.2 (by omega) nb.2 hr
        rw [kd_36 S2.1.R.F]
        refine ⟨rfl, GV.use (Re_emit_g S2 (by omega) 3002) (by omega) (fun h3 e3 => ?_)⟩
        have l1 : (p.2 ++ [3002]).length = p.2.length + 1 := by rw [List.length_append]; rfl
        rw [kI_add]
        exact ih p.1 (p.2 ++ [3002]) h3 (j + 1) (by omega) e3.2 (e2'.1.trans e3.1) (by omega) (by omega) (by omega) K
    · rw [if_pos (by rw [show (42 : Int) = ((42 : Nat) : Int) from rfl, cd_nn (k := 34) (c := 42) (by omega) (by decide) (by omega) rfl]; exact q)]
      rw [if_neg q] at K
      exact K h ⟨e0, S⟩
/-- one more term at pc 4, up to pc 78 -/
theorem X_l1 {tp : Nat → Nat} {n law F deep d : Nat} (hn : n ≤ 900) (hdp : deep ≤ 6) (hd : 2 * (6 - deep) + 3 ≤ d) (H0 : ∀ g, g < F → XC0 tp n law g) {h0 : AH} {i2 : Int32} {Q : Option Value → AH → Prop} {f a : Nat} {cs : List Nat} {h : AH} {i : Nat} (fF : f ≤ F) (S : RdS tp n law a cs h) (e0 : FRe h0 h) (le : cs.length + 1 ≤ a) (hf : 7 * (n - a) + 2 ≤ f) (hi : i < 900) (K : ∀ h', RPo tp n law (PP tp n law f 1 deep a cs) h0 h' → Safe d m_Re_sum (78, [.ref 36, .int (kI (deep : Nat)), .int i2, .int (kI (i : Nat)), unV], [], h') Q) : Safe d m_Re_sum (4, [.ref 36, .int (kI (deep : Nat)), .int i2, .int (kI (i : Nat)), unV], [], h) Q := by
  obtain ⟨f', ef⟩ : ∃ f', f = f' + 1 := ⟨f - 1, by omega⟩
  subst ef
  have Fx := S.1.R.F
  have an := S.1.an
  refine s_Re_sum_4 ?_
  rw [if_neg (by rw [decide_eq_true_eq, kI_le (by omega) (by omega) (by omega) (by omega)]; omega), if_neg S.1.nz, kd_36 Fx]
  refine ⟨rfl, rfl, GV.use (H0 f' (by omega) deep a cs h hdp S le (by omega)) hd (fun h1 e1 => ?_)⟩
  rw [PP] at K
  have e1' := e1.tr e0
  cases hr : PP tp n law f' 0 deep a cs with
  | error x =>
    rw [hr] at e1' K
    have B : RdB tp n x h1 := e1'.2
    refine s_Re_sum_26 ?_
    rw [if_pos B.nz.1, kd_36 B.R.F]
    have s := K h1 ⟨e1'.1, B⟩
    split
    · exact s
    · exact ⟨rfl, s⟩
  | ok p =>
    rw [hr] at e1' K
    have S1 : RdS tp n law p.1 p.2 h1 := e1'.2
    have g := PP_go f' 0 deep a cs p.1 p.2 (by omega) an hr
    have g4 := g.2.2.2 (by unfold lpM; omega)
    exact X_l2 hn hdp hd H0 f' p.1 p.2 h1 0 (by omega) S1 e1'.1 (by omega) (by omega) (by omega) K
/-- the terms that follow -/
theorem X_l4 {tp : Nat → Nat} {n law F deep d : Nat} (hn : n ≤ 900) (hdp : deep ≤ 6) (hd : 2 * (6 - deep) + 3 ≤ d) (H0 : ∀ g, g < F → XC0 tp n law g) {h0 : AH} {Q : Option Value → AH → Prop} : ∀ f a cs h i, f ≤ F → RdS tp n law a cs h → FRe h0 h → cs.length + 1 ≤ a → 7 * (n - a) + 1 ≤ f → i + 1 ≤ a → (∀ h', RPo tp n law (PP tp n law f 4 deep a cs) h0 h' → Q none h') → Safe d m_Re_sum (87, [.ref 36, .int (kI (deep : Nat)), unV, .int (kI (i : Nat)), unV], [], h) Q := by
  intro f
  induction f with
  | zero => intro a cs h i _ _ _ _ hf; omega
  | succ f ih =>
    intro a cs h i fF S e0 le hf hi K
    have Fx := S.1.R.F
    have an := S.1.an
    have e43 : (decide (kI (cdX tp n a : Nat) = kI 43) = true) ↔ tKd tp n a = 32 := cd_ne (k := 32) (c := 43) (by omega) (by decide) (by omega) rfl
    have e45 : (decide (kI (cdX tp n a : Nat) = kI 45) = true) ↔ tKd tp n a = 33 := cd_ne (k := 33) (c := 45) (by omega) (by decide) (by omega) rfl
    have more : ∀ x : Nat, (x = if tKd tp n a = 32 then 3000 else 3001) → (tKd tp n a = 32 ∨ tKd tp n a = 33) → Safe d m_Re_sum (133, [.ref 36, .int (kI (deep : Nat)), unV, .int (kI (i : Nat)), unV], [.int (kI (xc x : Nat))], h) Q := fun x ex q => by
      have a1 := kd_n (tp := tp) (n := n) (a := a) (by omega)
      have nb := nxA_b (tp := tp) a1
      rw [PP, if_pos q, ← ex] at K
      refine s_Re_sum_133 ?_
      rw [rv_36_0 Fx, kd_36 Fx, kd_37 Fx]
      refine ⟨rfl, rfl, GV.use (S.adv a1) (by omega) (fun h1 e1 => ?_)⟩
      rw [kI_add]
      refine X_l1 (f := f) hn hdp hd H0 (i := i + 1) (by omega) e1.2 (e0.trans e1.1) (by omega) (by omega) (by omega) (fun h2 e2 => ?_)
      cases hr : PP tp n law f 1 deep (nxA tp n a) cs with
      | error y =>
        rw [hr] at e2 K
        have B : RdB tp n y h2 := e2.2
        exact (Re_sum_26b (w := 0) B e2.1 (by omega) (fun h' e' B' => K h' ⟨e', B'⟩)).1
      | ok p =>
        rw [hr] at e2 K
        have S2 : RdS tp n law p.1 p.2 h2 := e2.2
        have g := PP_go f 1 deep (nxA tp n a) cs p.1 p.2 (by omega) nb.2 hr
        have g4 := g.2.2.2 (by unfold lpM; omega)
        refine s_Re_sum_78 ?_
        have p1 := S2.1.an
        rw [if_neg (by rw [decide_eq_true_eq, z0, kI_le (by omega) (by omega) (by omega) (by omega)]; omega), kd_36 S2.1.R.F]
        refine ⟨rfl, GV.use (Re_emit_g S2 (by omega) x) (by omega) (fun h3 e3 => ?_)⟩
        have l1 : (p.2 ++ [x]).length = p.2.length + 1 := by rw [List.length_append]; rfl
        exact ih p.1 (p.2 ++ [x]) h3 (i + 1) (by omega) e3.2 (e2.1.trans e3.1) (by omega) (by omega) (by omega) K
    have s112 : (tKd tp n a = 32 ∨ tKd tp n a = 33) → Safe d m_Re_sum (112, [.ref 36, .int (kI (deep : Nat)), unV, .int (kI (i : Nat)), unV], [], h) Q := fun q => by
      refine s_Re_sum_112 ?_
      rw [rv_36_0 Fx, kd_36 Fx, kd_37 Fx, S.1.K.c]
      refine ⟨rfl, rfl, ?_⟩
      by_cases q2 : tKd tp n a = 32
      · rw [if_neg (by rw [Bool.not_eq_true', ← Bool.not_eq_true, e43]; exact fun z => z q2)]
        exact more 3000 (by rw [if_pos q2]) q
      · rw [if_pos (by rw [Bool.not_eq_true', ← Bool.not_eq_true, e43]; exact q2)]
        exact more 3001 (by rw [if_neg q2]) q
    refine s_Re_sum_87 ?_
    rw [rv_36_0 Fx, kd_36 Fx, kd_37 Fx, S.1.K.c]
    refine ⟨rfl, rfl, ?_⟩
    by_cases q2 : tKd tp n a = 32
    · rw [if_pos (e43.mpr q2)]
      exact s112 (Or.inl q2)
    · rw [if_neg (fun z => q2 (e43.mp z))]
      refine ⟨rfl, rfl, ?_⟩
      by_cases q3 : tKd tp n a = 33
      · rw [if_pos (e45.mpr q3)]
        exact s112 (Or.inr q3)
      · rw [if_neg (fun z => q3 (e45.mp z))]
        rw [PP, if_neg (by omega)] at K
        exact K h ⟨e0, S⟩
theorem X_c3 {tp : Nat → Nat} {n law F : Nat} (hn : n ≤ 900) (H0 : ∀ g, g < F → XC0 tp n law g) : XC3 tp n law F := by
  intro deep a cs h hd S le hf
  obtain ⟨f, ef⟩ : ∃ f, F = f + 1 := ⟨F - 1, by omega⟩
  subst ef
  have an := S.1.an
  refine GVo (s_Re_sum_0 ?_)
  rw [PP]
  refine X_l1 (f := f) hn hd (Nat.le_refl _) H0 (i := 0) (by omega) S (Fr_rfl _ _ _) le (by omega) (by omega) (fun h1 e1 => ?_)
  cases hr : PP tp n law f 1 deep a cs with
  | error y =>
    rw [hr] at e1
    have B : RdB tp n y h1 := e1.2
    exact (Re_sum_26b (w := 0) B e1.1 (by omega) (fun h' e' B' => ⟨rfl, e', B'⟩)).1
  | ok p =>
    rw [hr] at e1
    have S1 : RdS tp n law p.1 p.2 h1 := e1.2
    have g := PP_go f 1 deep a cs p.1 p.2 (by omega) an hr
    have g4 := g.2.2.2 (by unfold lpM; omega)
    refine s_Re_sum_78 ?_
    rw [if_pos (by decide)]
    exact X_l4 hn hd (Nat.le_refl _) H0 f p.1 p.2 h1 0 (by omega) S1 e1.1 (by omega) (by omega) (by omega) (fun h' e' => ⟨rfl, e'⟩)
