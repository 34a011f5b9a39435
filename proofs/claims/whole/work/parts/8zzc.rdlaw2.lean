/-! the class reads truths -/
theorem Re_comparison_b {tp : Nat → Nat} {n : Nat} {r : Nat × Nat} {h : AH} (B : RdB tp n r h) : ∃ x, GI 3 m_Re_comparison [.ref 36] h x (fun h' => h' = h) := by
  have F := B.R.F
  have s39 : ∀ x : Int32, Safe 2 m_Re_comparison (39, [.ref 36, unV], [.int x], h) (fun v h' => Eqv v (some (.int x)) ∧ h' = h) := fun x => by
    refine s_Re_comparison_39 ?_
    rw [if_pos B.nz.1, kd_36 F]
    split
    · exact ⟨rfl, rfl, rfl⟩
    · rw [Re_expect_b B (by omega)]
      exact ⟨rfl, rfl, rfl⟩
  by_cases q : ivA h 37 4 = kI 61
  · refine ⟨kI 2003, GIo (s_Re_comparison_0 ?_)⟩
    rw [rv_36_0 F, kd_36 F, kd_37 F, if_neg (by rw [q]; decide)]
    exact ⟨rfl, rfl, s39 _⟩
  · by_cases q2 : ivA h 37 4 = kI 60
    · refine ⟨kI 2004, GIo (s_Re_comparison_0 ?_)⟩
      rw [rv_36_0 F, kd_36 F, kd_37 F, if_pos (by rw [Bool.not_eq_true', decide_eq_false_iff_not]; exact q), if_neg (by rw [q2]; decide)]
      exact ⟨rfl, rfl, rfl, rfl, s39 _⟩
    · refine ⟨kI 2005, GIo (s_Re_comparison_0 ?_)⟩
      rw [rv_36_0 F, kd_36 F, kd_37 F, if_pos (by rw [Bool.not_eq_true', decide_eq_false_iff_not]; exact q), if_pos (by rw [Bool.not_eq_true', decide_eq_false_iff_not]; exact q2)]
      exact ⟨rfl, rfl, rfl, rfl, s39 _⟩
theorem Re_comparison_g {tp : Nat → Nat} {n law a : Nat} {cs : List Nat} {h : AH} (S : RdS tp n law a cs h) : ∃ x, GI 3 m_Re_comparison [.ref 36] h x (RPo tp n law (if tKd tp n a = 39 ∨ tKd tp n a = 40 ∨ tKd tp n a = 41 then .ok (nxA tp n a, cs) else .error (fkF tp n a 2, a)) h) ∧ ((tKd tp n a = 39 ∨ tKd tp n a = 40 ∨ tKd tp n a = 41) → x = kI (xc (3003 + (tKd tp n a - 39)) : Nat)) := by
  have F := S.1.R.F
  have e61 : ((!decide (kI (cdX tp n a : Nat) = kI 61)) = true) ↔ tKd tp n a ≠ 39 := cd_nn (k := 39) (c := 61) (by omega) (by decide) (by omega) rfl
  have e60 : ((!decide (kI (cdX tp n a : Nat) = kI 60)) = true) ↔ tKd tp n a ≠ 40 := cd_nn (k := 40) (c := 60) (by omega) (by decide) (by omega) rfl
  have s39 : ∀ x : Int32, (!decide (x = kI 2005)) = true → (tKd tp n a = 39 ∨ tKd tp n a = 40) → Safe 2 m_Re_comparison (39, [.ref 36, unV], [.int x], h) (fun v h' => Eqv v (some (.int x)) ∧ RPo tp n law (if tKd tp n a = 39 ∨ tKd tp n a = 40 ∨ tKd tp n a = 41 then .ok (nxA tp n a, cs) else .error (fkF tp n a 2, a)) h h') := fun x hx q => by
    refine s_Re_comparison_39 ?_
    rw [if_pos hx, if_neg S.1.nz, rv_36_0 F, kd_36 F, kd_37 F, if_pos (show tKd tp n a = 39 ∨ tKd tp n a = 40 ∨ tKd tp n a = 41 by omega)]
    exact ⟨rfl, rfl, rfl, GV.use (S.adv (kd_n (tp := tp) (n := n) (a := a) (by omega))) (by omega) (fun h1 e1 => ⟨rfl, e1.1, e1.2⟩)⟩
  by_cases q : tKd tp n a = 39
  · refine ⟨kI 2003, GIo (s_Re_comparison_0 ?_), fun _ => by rw [q]; rfl⟩
    rw [rv_36_0 F, kd_36 F, kd_37 F, S.1.K.c, if_neg (fun z => e61.mp z q)]
    exact ⟨rfl, rfl, s39 _ (by decide) (Or.inl q)⟩
  · by_cases q2 : tKd tp n a = 40
    · refine ⟨kI 2004, GIo (s_Re_comparison_0 ?_), fun _ => by rw [q2]; rfl⟩
      rw [rv_36_0 F, kd_36 F, kd_37 F, S.1.K.c, if_pos (e61.mpr q), if_neg (fun z => e60.mp z q2)]
      exact ⟨rfl, rfl, rfl, rfl, s39 _ (by decide) (Or.inr q2)⟩
    · refine ⟨kI 2005, GIo (s_Re_comparison_0 ?_), fun z => by rw [show tKd tp n a = 41 by omega]; rfl⟩
      rw [rv_36_0 F, kd_36 F, kd_37 F, S.1.K.c, if_pos (e61.mpr q), if_pos (e60.mpr q2)]
      refine ⟨rfl, rfl, rfl, rfl, s_Re_comparison_39 ?_⟩
      rw [if_neg (by decide), kd_36 F]
      have ei : (if tKd tp n a = 39 ∨ tKd tp n a = 40 ∨ tKd tp n a = 41 then (.ok (nxA tp n a, cs) : PR) else .error (fkF tp n a 2, a)) = (if tKd tp n a = 41 then .ok (nxA tp n a, cs) else .error (fkF tp n a 2, a)) := by
        by_cases q3 : tKd tp n a = 41
        · rw [if_pos (by omega), if_pos q3]
        · rw [if_neg (by omega), if_neg q3]
      rw [ei]
      exact ⟨rfl, GV.use (S.exp (k := 41) (c := 62) (by omega) (by decide) (by omega) rfl (by omega)) (by omega) (fun h1 e1 => ⟨rfl, e1⟩)⟩
theorem X_c5 {tp : Nat → Nat} {n law F : Nat} (hn : n ≤ 900) (H3 : ∀ g, g < F → XC3 tp n law g) (H5 : ∀ g, g < F → XC5 tp n law g) (H9 : ∀ g, g < F → XC9 tp n law g) : XC5 tp n law F := by
  intro deep a cs h hd S le hf
  have Fx := S.1.R.F
  have an := S.1.an
  obtain ⟨f, ef⟩ : ∃ f, F = f + 1 := ⟨F - 1, by omega⟩
  subst ef
  have e210 : ((!decide (kI (cdX tp n a : Nat) = kI 210)) = true) ↔ tKd tp n a ≠ 15 := cd_nn (k := 15) (c := 210) (by omega) (by decide) (by omega) rfl
  have e91 : ((!decide (kI (cdX tp n a : Nat) = kI 91)) = true) ↔ tKd tp n a ≠ 37 := cd_nn (k := 37) (c := 91) (by omega) (by decide) (by omega) rfl
  refine GVo (s_Re_unit_0 ?_)
  rw [rv_36_0 Fx, kd_36 Fx, kd_37 Fx, S.1.K.c, PP]
  refine ⟨rfl, rfl, ?_⟩
  by_cases q15 : tKd tp n a = 15
  · have a1 := kd_n (tp := tp) (n := n) (a := a) (by omega)
    have nb := nxA_b (tp := tp) a1
    rw [if_neg (fun z => e210.mp z q15), if_pos q15]
    refine ⟨rfl, ?_⟩
    by_cases q6 : deep = 6
    · rw [if_pos q6]
      subst q6
      refine GI.use (Re_mayNest_n S.1 (by omega)) (by omega) (fun h1 e1 => ?_)
      rw [if_pos (by decide)]
      exact ⟨rfl, re_of' e1.1, e1.2⟩
    · rw [if_neg q6]
      refine GI.use (Re_mayNest_y S.1 a1 (by omega)) (by omega) (fun h1 e1 => ?_)
      have S1 : RdS tp n law (nxA tp n a) cs h1 := ⟨e1.2, S.2.fa e1.1⟩
      rw [if_neg (by decide), kd_36 e1.2.R.F, kI_add]
      refine ⟨rfl, ?_⟩
      refine GV.use (H5 f (by omega) (deep + 1) (nxA tp n a) cs h1 (by omega) S1 (by omega) (by omega)) (by omega) (fun h2 e2 => ?_)
      have e2' := e2.tr (re_of e1.1)
      cases hr : PP tp n law f 5 (deep + 1) (nxA tp n a) cs with
      | error x =>
        rw [hr] at e2'
        have B : RdB tp n x h2 := e2'.2
        rw [kd_36 B.R.F]
        exact ⟨rfl, GV.use (Re_emit_b B _) (by omega) (fun h3 e3 => ⟨rfl, e2'.1.trans e3.1, e3.2⟩)⟩
      | ok p =>
        rw [hr] at e2'
        have S2 : RdS tp n law p.1 p.2 h2 := e2'.2
        have g := PP_go f 5 (deep + 1) (nxA tp n a) cs p.1 p.2 (by omega) nb.2 hr
        rw [kd_36 S2.1.R.F]
        exact ⟨rfl, GV.use (Re_emit_g S2 (by omega) 3006) (by omega) (fun h3 e3 => ⟨rfl, e2'.1.trans e3.1, e3.2⟩)⟩
  · rw [if_pos (e210.mpr q15), if_neg q15]
    refine ⟨rfl, rfl, ?_⟩
    by_cases q37 : tKd tp n a = 37
    · have a1 := kd_n (tp := tp) (n := n) (a := a) (by omega)
      have nb := nxA_b (tp := tp) a1
      rw [if_neg (fun z => e91.mp z q37), if_pos q37]
      refine ⟨rfl, ?_⟩
      by_cases q6 : deep = 6
      · rw [if_pos q6]
        subst q6
        refine GI.use (Re_mayNest_n S.1 (by omega)) (by omega) (fun h1 e1 => ?_)
        rw [if_pos (by decide)]
        exact ⟨rfl, re_of' e1.1, e1.2⟩
      · rw [if_neg q6]
        refine GI.use (Re_mayNest_y S.1 a1 (by omega)) (by omega) (fun h1 e1 => ?_)
        have S1 : RdS tp n law (nxA tp n a) cs h1 := ⟨e1.2, S.2.fa e1.1⟩
        rw [if_neg (by decide), kd_36 e1.2.R.F, kI_add]
        refine ⟨rfl, ?_⟩
        refine GV.use (H9 f (by omega) (deep + 1) (nxA tp n a) cs h1 (by omega) S1 (by omega) (by omega)) (by omega) (fun h2 e2 => ?_)
        have e2' := e2.tr (re_of e1.1)
        cases hr : PP tp n law f 9 (deep + 1) (nxA tp n a) cs with
        | error x =>
          rw [hr] at e2'
          have B : RdB tp n x h2 := e2'.2
          rw [kd_36 B.R.F, Re_expect_b B (by omega)]
          exact ⟨rfl, rfl, e2'.1, B⟩
        | ok p =>
          rw [hr] at e2'
          have S2 : RdS tp n law p.1 p.2 h2 := e2'.2
          rw [kd_36 S2.1.R.F]
          refine ⟨rfl, GV.use (S2.exp (k := 38) (c := 93) (by omega) (by decide) (by omega) rfl (by omega)) (by omega) (fun h3 e3 => ⟨rfl, e3.tr e2'.1⟩)⟩
    · rw [if_pos (e91.mpr q37), if_neg q37]
      refine ⟨rfl, GV.use (H3 f (by omega) deep a cs h hd S le (by omega)) (by omega) (fun h1 e1 => ?_)⟩
      have dead : ∀ (x : Nat × Nat) h1, FRe h h1 → RdB tp n x h1 → (kdA h1 36 = 6) ∧ CallV (2 * (6 - deep) + 4) m_Re_sum [.ref 36, .int (kI (deep : Nat))] h1 (fun h4 => (decide (kdA h4 36 = 6)) = true ∧ ∀ y, CallV (2 * (6 - deep) + 4) m_Re_emit [.ref 36, .int y] h4 (fun h5 => Eqv none none ∧ RPo tp n law (.error x) h h5)) := fun x h1 e1 B => by
        rw [Re_sum_b B (by omega)]
        refine ⟨kd_36 B.R.F, by rw [kd_36 B.R.F]; rfl, fun y => ?_⟩
        exact GV.use (Re_emit_b B y) (by omega) (fun h3 e3 => ⟨rfl, e1.trans e3.1, e3.2⟩)
      cases hr : PP tp n law f 3 deep a cs with
      | error x =>
        rw [hr] at e1
        have B : RdB tp n x h1 := e1.2
        rw [kd_36 B.R.F]
        obtain ⟨y, hy⟩ := Re_comparison_b B
        refine ⟨rfl, GI.use hy (by omega) (fun h2 e2 => ?_)⟩
        subst e2
        rw [kd_36 B.R.F, Re_sum_b B (by omega), kd_36 B.R.F]
        exact ⟨rfl, rfl, GV.use (Re_emit_b B y) (by omega) (fun h3 e3 => ⟨rfl, e1.1.trans e3.1, e3.2⟩)⟩
      | ok p =>
        rw [hr] at e1
        have S1 : RdS tp n law p.1 p.2 h1 := e1.2
        have g := PP_go f 3 deep a cs p.1 p.2 (by omega) an hr
        have g4 := g.2.2.2 (by unfold lpM; omega)
        rw [kd_36 S1.1.R.F]
        obtain ⟨y, hy, ey⟩ := Re_comparison_g S1
        refine ⟨rfl, GI.use hy (by omega) (fun h2 e2 => ?_)⟩
        have e2' := e2.tr e1.1
        rw [thn]
        by_cases q : tKd tp n p.1 = 39 ∨ tKd tp n p.1 = 40 ∨ tKd tp n p.1 = 41
        · have a1 := kd_n (tp := tp) (n := n) (a := p.1) (by omega)
          have nb := nxA_b (tp := tp) a1
          rw [if_pos q] at e2' ⊢
          have S2 : RdS tp n law (nxA tp n p.1) p.2 h2 := e2'.2
          rw [kd_36 S2.1.R.F]
          refine ⟨rfl, GV.use (H3 f (by omega) deep (nxA tp n p.1) p.2 h2 hd S2 (by omega) (by omega)) (by omega) (fun h3 e3 => ?_)⟩
          have e3' := e3.tr e2'.1
          cases hr2 : PP tp n law f 3 deep (nxA tp n p.1) p.2 with
          | error x =>
            rw [hr2] at e3'
            have B : RdB tp n x h3 := e3'.2
            rw [kd_36 B.R.F]
            exact ⟨rfl, GV.use (Re_emit_b B y) (by omega) (fun h4 e4 => ⟨rfl, e3'.1.trans e4.1, e4.2⟩)⟩
          | ok p2 =>
            rw [hr2] at e3'
            have S3 : RdS tp n law p2.1 p2.2 h3 := e3'.2
            have g2 := PP_go f 3 deep (nxA tp n p.1) p.2 p2.1 p2.2 (by omega) nb.2 hr2
            rw [kd_36 S3.1.R.F, ey q]
            exact ⟨rfl, GV.use (Re_emit_g S3 (by omega) _) (by omega) (fun h4 e4 => ⟨rfl, e3'.1.trans e4.1, e4.2⟩)⟩
        · rw [if_neg q] at e2' ⊢
          have B : RdB tp n (fkF tp n p.1 2, p.1) h2 := e2'.2
          rw [kd_36 B.R.F, Re_sum_b B (by omega), kd_36 B.R.F]
          exact ⟨rfl, rfl, GV.use (Re_emit_b B y) (by omega) (fun h3 e3 => ⟨rfl, e2'.1.trans e3.1, e3.2⟩)⟩
/-! truths -/
theorem Re_truth_2b {tp : Nat → Nat} {n d : Nat} {r : Nat × Nat} {h : AH} (B : RdB tp n r h) {x y : Int32} {Q : Option Value → AH → Prop} (q : Q none h) : Safe d m_Re_truth (2, [.ref 36, .int x, .int y, unV], [], h) Q := by
  refine s_Re_truth_2 ?_
  rw [if_pos B.nz.1, kd_36 B.R.F]
  split
  · exact q
  · exact ⟨rfl, q⟩
theorem Re_truth_b {tp : Nat → Nat} {n d : Nat} {r : Nat × Nat} {h : AH} (B : RdB tp n r h) {x : Int32} (hd : 1 ≤ d) {K : AH → Prop} : CallV d m_Re_truth [.ref 36, .int x] h K ↔ K h := by
  refine Ret.V (d := 1) (ret_of (s_Re_truth_0 ?_)) hd
  exact Re_truth_2b B ⟨rfl, rfl⟩
theorem Re_truth_86b {tp : Nat → Nat} {n d : Nat} {r : Nat × Nat} {h h0 : AH} (B : RdB tp n r h) (e0 : FRe h0 h) (hd : 1 ≤ d) {x z : Int32} {Q : Option Value → AH → Prop} (q : ∀ h', FRe h0 h' → RdB tp n r h' → Q none h') : Safe d m_Re_truth (86, [.ref 36, .int x, .int z, unV], [], h) Q := by
  have F := B.R.F
  refine s_Re_truth_86 ?_
  rw [rv_36_0 F, kd_36 F, kd_37 F]
  refine ⟨rfl, rfl, ?_⟩
  split
  · refine ⟨rfl, rfl, GV.use (Re_adv_b B) hd (fun h1 e1 => ?_)⟩
    exact Re_truth_2b e1.2 (q h1 (e0.trans (re_of e1.1)) e1.2)
  · exact q h e0 B
theorem Re_truth_75b {tp : Nat → Nat} {n d : Nat} {r : Nat × Nat} {h h0 : AH} (B : RdB tp n r h) (e0 : FRe h0 h) (hd : 1 ≤ d) {x z : Int32} {Q : Option Value → AH → Prop} (q : ∀ h', FRe h0 h' → RdB tp n r h' → Q none h') : Safe d m_Re_truth (75, [.ref 36, .int x, .int z, unV], [], h) Q := by
  have F := B.R.F
  refine s_Re_truth_75 ?_
  split
  · exact Re_truth_86b B e0 hd q
  · rw [kd_36 F]
    refine ⟨rfl, GV.use (Re_emit_b B _) hd (fun h1 e1 => ?_)⟩
    exact Re_truth_86b e1.2 (e0.trans e1.1) hd q
theorem X_l7 {tp : Nat → Nat} {n law F deep d : Nat} (hn : n ≤ 900) (hdp : deep ≤ 6) (hd : 2 * (6 - deep) + 5 ≤ d) (H5 : ∀ g, g < F → XC5 tp n law g) {h0 : AH} {i2 : Int32} {Q : Option Value → AH → Prop} : ∀ f a cs h j, f ≤ F → RdS tp n law a cs h → FRe h0 h → cs.length + 1 ≤ a → 7 * (n - a) + 1 ≤ f → j + 1 ≤ a → (∀ h', RPo tp n law (PP tp n law f 7 deep a cs) h0 h' → Safe d m_Re_truth (75, [.ref 36, .int (kI (deep : Nat)), .int i2, unV], [], h') Q) → Safe d m_Re_truth (23, [.ref 36, .int (kI (deep : Nat)), .int i2, .int (kI (j : Nat))], [], h) Q := by
  have dead : ∀ h r (w : Int32), RdB tp n r h → Safe d m_Re_truth (75, [.ref 36, .int (kI (deep : Nat)), .int i2, unV], [], h) Q → Safe d m_Re_truth (23, [.ref 36, .int (kI (deep : Nat)), .int i2, .int w], [], h) Q := fun h r w B s => by
    refine s_Re_truth_23 ?_
    rw [if_pos B.nz.1, kd_36 B.R.F]
    split
    · exact s
    · exact ⟨rfl, s⟩
  intro f
  induction f with
  | zero => intro a cs h j _ _ _ _ hf; omega
  | succ f ih =>
    intro a cs h j fF S e0 le hf hj K
    have Fx := S.1.R.F
    have an := S.1.an
    have e209 : ((!decide (kI (cdX tp n a : Nat) = kI 209)) = true) ↔ tKd tp n a ≠ 13 := cd_nn (k := 13) (c := 209) (by omega) (by decide) (by omega) rfl
    refine s_Re_truth_23 ?_
    rw [if_neg (by rw [decide_eq_true_eq, kI_le (by omega) (by omega) (by omega) (by omega)]; omega), if_neg S.1.nz, rv_36_0 Fx, kd_36 Fx, kd_37 Fx, S.1.K.c]
    refine ⟨rfl, rfl, rfl, ?_⟩
    rw [PP] at K
    by_cases q : tKd tp n a = 13
    · have a1 := kd_n (tp := tp) (n := n) (a := a) (by omega)
      have nb := nxA_b (tp := tp) a1
      rw [if_neg (fun z => e209.mp z q)]
      rw [if_pos q] at K
      refine ⟨rfl, rfl, GV.use (S.adv a1) (by omega) (fun h1 e1 => ?_)⟩
      rw [kd_36 e1.2.1.R.F]
      refine ⟨rfl, GV.use (H5 f (by omega) deep (nxA tp n a) cs h1 hdp e1.2 (by omega) (by omega)) hd (fun h2 e2 => ?_)⟩
      have e2' := e2.tr (e0.trans e1.1)
      cases hr : PP tp n law f 5 deep (nxA tp n a) cs with
      | error x =>
        rw [hr] at e2' K
        have B : RdB tp n x h2 := e2'.2
        rw [kd_36 B.R.F]
        refine ⟨rfl, GV.use (Re_emit_b B _) (by omega) (fun h3 e3 => ?_)⟩
        exact dead h3 x _ e3.2 (K h3 ⟨e2'.1.trans e3.1, e3.2⟩)
      | ok p =>
        rw [hr] at e2' K
        have S2 : RdS tp n law p.1 p.2 h2 := e2'.2
        have g := PP_go f 5 deep (nxA tp n a) cs p.1 p.2 (by omega) nb.2 hr
        rw [kd_36 S2.1.R.F]
        refine ⟨rfl, GV.use (Re_emit_g S2 (by omega) 3007) (by omega) (fun h3 e3 => ?_)⟩
        have l1 : (p.2 ++ [3007]).length = p.2.length + 1 := by rw [List.length_append]; rfl
        rw [kI_add]
        exact ih p.1 (p.2 ++ [3007]) h3 (j + 1) (by omega) e3.2 (e2'.1.trans e3.1) (by omega) (by omega) (by omega) K
    · rw [if_pos (e209.mpr q)]
      rw [if_neg q] at K
      exact K h ⟨e0, S⟩
theorem X_l6 {tp : Nat → Nat} {n law F deep d : Nat} (hn : n ≤ 900) (hdp : deep ≤ 6) (hd : 2 * (6 - deep) + 5 ≤ d) (H5 : ∀ g, g < F → XC5 tp n law g) {h0 : AH} {Q : Option Value → AH → Prop} {f a : Nat} {cs : List Nat} {h : AH} {i : Nat} (fF : f ≤ F) (S : RdS tp n law a cs h) (e0 : FRe h0 h) (le : cs.length + 1 ≤ a) (hf : 7 * (n - a) + 5 ≤ f) (hi : i < 900) (K : ∀ h', RPo tp n law (PP tp n law f 6 deep a cs) h0 h' → Safe d m_Re_truth (75, [.ref 36, .int (kI (deep : Nat)), .int (kI (i : Nat)), unV], [], h') Q) : Safe d m_Re_truth (2, [.ref 36, .int (kI (deep : Nat)), .int (kI (i : Nat)), unV], [], h) Q := by
  obtain ⟨f', ef⟩ : ∃ f', f = f' + 1 := ⟨f - 1, by omega⟩
  subst ef
  have Fx := S.1.R.F
  have an := S.1.an
  refine s_Re_truth_2 ?_
  rw [if_neg (by rw [decide_eq_true_eq, kI_le (by omega) (by omega) (by omega) (by omega)]; omega), if_neg S.1.nz, kd_36 Fx]
  refine ⟨rfl, rfl, GV.use (H5 f' (by omega) deep a cs h hdp S le (by omega)) hd (fun h1 e1 => ?_)⟩
  rw [PP] at K
  have e1' := e1.tr e0
  cases hr : PP tp n law f' 5 deep a cs with
  | error x =>
    rw [hr] at e1' K
    have B : RdB tp n x h1 := e1'.2
    refine s_Re_truth_23 ?_
    rw [if_pos B.nz.1, kd_36 B.R.F]
    have s := K h1 ⟨e1'.1, B⟩
    split
    · exact s
    · exact ⟨rfl, s⟩
  | ok p =>
    rw [hr] at e1' K
    have S1 : RdS tp n law p.1 p.2 h1 := e1'.2
    have g := PP_go f' 5 deep a cs p.1 p.2 (by omega) an hr
    have g4 := g.2.2.2 (by unfold lpM; omega)
    exact X_l7 hn hdp hd H5 f' p.1 p.2 h1 0 (by omega) S1 e1'.1 (by omega) (by omega) (by omega) K
theorem X_l8 {tp : Nat → Nat} {n law F deep d : Nat} (hn : n ≤ 900) (hdp : deep ≤ 6) (hd : 2 * (6 - deep) + 5 ≤ d) (H5 : ∀ g, g < F → XC5 tp n law g) {h0 : AH} {Q : Option Value → AH → Prop} : ∀ f a cs h i, f ≤ F → RdS tp n law a cs h → FRe h0 h → cs.length + 1 ≤ a → 7 * (n - a) + 1 ≤ f → i + 1 ≤ a → (∀ h', RPo tp n law (PP tp n law f 8 deep a cs) h0 h' → Q none h') → Safe d m_Re_truth (86, [.ref 36, .int (kI (deep : Nat)), .int (kI (i : Nat)), unV], [], h) Q := by
  intro f
  induction f with
  | zero => intro a cs h i _ _ _ _ hf; omega
  | succ f ih =>
    intro a cs h i fF S e0 le hf hi K
    have Fx := S.1.R.F
    have an := S.1.an
    have e208 : (decide (kI (cdX tp n a : Nat) = kI 208) = true) ↔ tKd tp n a = 14 := cd_ne (k := 14) (c := 208) (by omega) (by decide) (by omega) rfl
    refine s_Re_truth_86 ?_
    rw [rv_36_0 Fx, kd_36 Fx, kd_37 Fx, S.1.K.c]
    refine ⟨rfl, rfl, ?_⟩
    by_cases q : tKd tp n a = 14
    · rw [if_pos (e208.mpr q)]
      have a1 := kd_n (tp := tp) (n := n) (a := a) (by omega)
      have nb := nxA_b (tp := tp) a1
      rw [PP, if_pos q] at K
      refine ⟨rfl, rfl, GV.use (S.adv a1) (by omega) (fun h1 e1 => ?_)⟩
      rw [kI_add]
      refine X_l6 (f := f) hn hdp hd H5 (i := i + 1) (by omega) e1.2 (e0.trans e1.1) (by omega) (by omega) (by omega) (fun h2 e2 => ?_)
      cases hr : PP tp n law f 6 deep (nxA tp n a) cs with
      | error y =>
        rw [hr] at e2 K
        have B : RdB tp n y h2 := e2.2
        exact Re_truth_75b B e2.1 (by omega) (fun h' e' B' => K h' ⟨e', B'⟩)
      | ok p =>
        rw [hr] at e2 K
        have S2 : RdS tp n law p.1 p.2 h2 := e2.2
        have g := PP_go f 6 deep (nxA tp n a) cs p.1 p.2 (by omega) nb.2 hr
        have g4 := g.2.2.2 (by unfold lpM; omega)
        refine s_Re_truth_75 ?_
        have p1 := S2.1.an
        rw [if_neg (by rw [decide_eq_true_eq, z0, kI_le (by omega) (by omega) (by omega) (by omega)]; omega), kd_36 S2.1.R.F]
        refine ⟨rfl, GV.use (Re_emit_g S2 (by omega) 3008) (by omega) (fun h3 e3 => ?_)⟩
        have l1 : (p.2 ++ [3008]).length = p.2.length + 1 := by rw [List.length_append]; rfl
        exact ih p.1 (p.2 ++ [3008]) h3 (i + 1) (by omega) e3.2 (e2.1.trans e3.1) (by omega) (by omega) (by omega) K
    · rw [if_neg (fun z => q (e208.mp z))]
      rw [PP, if_neg q] at K
      exact K h ⟨e0, S⟩
theorem X_c9 {tp : Nat → Nat} {n law F : Nat} (hn : n ≤ 900) (H5 : ∀ g, g < F → XC5 tp n law g) : XC9 tp n law F := by
  intro deep a cs h hd S le hf
  obtain ⟨f, ef⟩ : ∃ f, F = f + 1 := ⟨F - 1, by omega⟩
  subst ef
  have an := S.1.an
  refine GVo (s_Re_truth_0 ?_)
  rw [PP_9]
  refine X_l6 (f := f) hn hd (Nat.le_refl _) H5 (i := 0) (by omega) S (Fr_rfl _ _ _) le (by omega) (by omega) (fun h1 e1 => ?_)
  cases hr : PP tp n law f 6 deep a cs with
  | error y =>
    rw [hr] at e1
    have B : RdB tp n y h1 := e1.2
    exact Re_truth_75b B e1.1 (by omega) (fun h' e' B' => ⟨rfl, e', B'⟩)
  | ok p =>
    rw [hr] at e1
    have S1 : RdS tp n law p.1 p.2 h1 := e1.2
    have g := PP_go f 6 deep a cs p.1 p.2 (by omega) an hr
    have g4 := g.2.2.2 (by unfold lpM; omega)
    refine s_Re_truth_75 ?_
    rw [if_pos (by decide)]
    exact X_l8 hn hd (Nat.le_refl _) H5 f p.1 p.2 h1 0 (by omega) S1 e1.1 (by omega) (by omega) (by omega) (fun h' e' => ⟨rfl, e'⟩)
theorem X_parse {tp : Nat → Nat} {n law : Nat} (hn : n ≤ 900) (hl : law ≤ 1) : ∀ F, XC0 tp n law F ∧ XC3 tp n law F ∧ XC5 tp n law F ∧ XC9 tp n law F := by
  intro F
  induction F using Nat.strongRecOn with
  | ind F ih => exact ⟨X_c0 hn hl (fun g hg => (ih g hg).2.1), X_c3 hn (fun g hg => (ih g hg).1), X_c5 hn (fun g hg => (ih g hg).2.1) (fun g hg => (ih g hg).2.2.1) (fun g hg => (ih g hg).2.2.2), X_c9 hn (fun g hg => (ih g hg).2.2.1)⟩
