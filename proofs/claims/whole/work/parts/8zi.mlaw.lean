/-! the reference reads a law -/
theorem M_readAtom_d {h : AH} (B : MBd h) {d : Nat} {k : Int32} (hd : 2 ≤ d) {K : AH → Prop} : CallV d m_M_readAtom [.ref 88, .int k] h K ↔ K h := by
  refine Ret.V (d := 2) (ret_of (s_M_readAtom_0 ?_)) hd
  rw [kd_88 B.1, M_is_d B (by omega), if_pos (by decide), kd_88 B.1, if_pos B.nz.1]
  refine ⟨rfl, rfl, ?_⟩
  refine s_M_readAtom_66 ?_
  rw [kd_88 B.1, M_is_d B (by omega), if_pos (by decide), kd_88 B.1, M_fails_d B (by omega)]
  exact ⟨rfl, rfl, rfl, rfl⟩
theorem M_readTerm_5d {h : AH} (B : MBd h) {d : Nat} {k : Int32} (hd : 2 ≤ d) {Q : Option Value → AH → Prop} (q : Q none h) : Safe d m_M_readTerm (5, [.ref 88, .int k], [], h) Q := by
  refine s_M_readTerm_5 ?_
  rw [kd_88 B.1, M_eats_d B hd, if_pos (by decide)]
  exact ⟨rfl, q⟩
theorem M_readTerm_d {h : AH} (B : MBd h) {d : Nat} {k : Int32} (hd : 3 ≤ d) {K : AH → Prop} : CallV d m_M_readTerm [.ref 88, .int k] h K ↔ K h := by
  refine Ret.V (d := 3) (ret_of (s_M_readTerm_0 ?_)) hd
  rw [kd_88 B.1, M_readAtom_d B (by omega)]
  exact ⟨rfl, M_readTerm_5d B (by omega) ⟨rfl, rfl⟩⟩
theorem M_readSum_5d {h : AH} (B : MBd h) {d : Nat} {k : Int32} (hd : 2 ≤ d) {Q : Option Value → AH → Prop} (q : Q none h) : Safe d m_M_readSum (5, [.ref 88, .int k, unV], [], h) Q := by
  refine s_M_readSum_5 ?_
  rw [kd_88 B.1, M_is_d B (by omega), if_neg (by decide), kd_88 B.1, M_is_d B (by omega), if_pos (by decide)]
  exact ⟨rfl, rfl, q⟩
theorem M_readSum_d {h : AH} (B : MBd h) {d : Nat} {k : Int32} (hd : 4 ≤ d) {K : AH → Prop} : CallV d m_M_readSum [.ref 88, .int k] h K ↔ K h := by
  refine Ret.V (d := 4) (ret_of (s_M_readSum_0 ?_)) hd
  rw [kd_88 B.1, M_readTerm_d B (by omega)]
  exact ⟨rfl, M_readSum_5d B (by omega) ⟨rfl, rfl⟩⟩
theorem M_readUnit_151d {h : AH} (B : MBd h) {d : Nat} {k j : Int32} (hd : 4 ≤ d) {Q : Option Value → AH → Prop} (q : Q none h) : Safe d m_M_readUnit (151, [.ref 88, .int k, .int j], [], h) Q := by
  refine s_M_readUnit_151 ?_
  rw [kd_88 B.1, M_readSum_d B hd, kd_88 B.1, M_codes_d B (by omega)]
  exact ⟨rfl, rfl, q⟩
theorem M_readUnit_111d {h : AH} (B : MBd h) {d : Nat} {k j : Int32} (hd : 4 ≤ d) {Q : Option Value → AH → Prop} (q : Q none h) : Safe d m_M_readUnit (111, [.ref 88, .int k, unV], [.int j], h) Q := by
  refine s_M_readUnit_111 ?_
  rw [kd_88 B.1, M_is_d B (by omega), if_neg (by decide), kd_88 B.1, M_is_d B (by omega), if_neg (by decide), kd_88 B.1, M_is_d B (by omega), if_pos (by decide), kd_88 B.1, M_fails_d B (by omega)]
  exact ⟨rfl, rfl, rfl, rfl, M_readUnit_151d B hd q⟩
theorem M_readUnit_d {h : AH} (B : MBd h) {d : Nat} {k : Int32} (hd : 5 ≤ d) {K : AH → Prop} : CallV d m_M_readUnit [.ref 88, .int k] h K ↔ K h := by
  refine Ret.V (d := 5) (ret_of (s_M_readUnit_0 ?_)) hd
  rw [kd_88 B.1, M_is_d B (by omega), if_pos (by decide), kd_88 B.1, M_is_d B (by omega), if_pos (by decide), kd_88 B.1, M_readSum_d B (by omega), kd_88 B.1, M_is_d B (by omega), if_pos (by decide), kd_88 B.1, M_is_d B (by omega), if_pos (by decide)]
  exact ⟨rfl, rfl, rfl, rfl, rfl, M_readUnit_111d B (by omega) ⟨rfl, rfl⟩⟩
theorem M_readBoth_5d {h : AH} (B : MBd h) {d : Nat} {k : Int32} (hd : 2 ≤ d) {Q : Option Value → AH → Prop} (q : Q none h) : Safe d m_M_readBoth (5, [.ref 88, .int k], [], h) Q := by
  refine s_M_readBoth_5 ?_
  rw [kd_88 B.1, M_eats_d B hd, if_pos (by decide)]
  exact ⟨rfl, q⟩
theorem M_readBoth_d {h : AH} (B : MBd h) {d : Nat} {k : Int32} (hd : 6 ≤ d) {K : AH → Prop} : CallV d m_M_readBoth [.ref 88, .int k] h K ↔ K h := by
  refine Ret.V (d := 6) (ret_of (s_M_readBoth_0 ?_)) hd
  rw [kd_88 B.1, M_readUnit_d B (by omega)]
  exact ⟨rfl, M_readBoth_5d B (by omega) ⟨rfl, rfl⟩⟩
theorem M_readTruth_5d {h : AH} (B : MBd h) {d : Nat} {k : Int32} (hd : 2 ≤ d) {Q : Option Value → AH → Prop} (q : Q none h) : Safe d m_M_readTruth (5, [.ref 88, .int k], [], h) Q := by
  refine s_M_readTruth_5 ?_
  rw [kd_88 B.1, M_eats_d B hd, if_pos (by decide)]
  exact ⟨rfl, q⟩
def MPo (tp : Nat → Nat) (n law : Nat) (r : PR) (h h' : AH) : Prop := FRd h h' ∧ match r with
  | .ok q => MS tp n law q.1 q.2 h'
  | .error e => MBd h' ∧ ivA h' 88 11 = kI (e.1 : Nat) ∧ ivA h' 88 12 = kI (e.2 : Nat)
def MC0 (tp : Nat → Nat) (n law f : Nat) : Prop := (∀ deep a cs h, deep ≤ 6 → MS tp n law a cs h → cs.length + 1 ≤ a → 7 * (n - a) + 1 ≤ f → GV (3 * (6 - deep) + 9) m_M_readAtom [.ref 88, .int (kI (deep : Nat))] h (MPo tp n law (PP tp n law f 0 deep a cs) h))
def MC2 (tp : Nat → Nat) (n law f : Nat) : Prop := (∀ deep a cs h h0, deep ≤ 6 → MS tp n law a cs h → FRd h0 h → cs.length + 1 ≤ a → 7 * (n - a) + 1 ≤ f → Safe (3 * (6 - deep) + 9) m_M_readTerm (5, [.ref 88, .int (kI (deep : Nat))], [], h) (fun v h' => Eqv v none ∧ MPo tp n law (PP tp n law f 2 deep a cs) h0 h'))
def MC1 (tp : Nat → Nat) (n law f : Nat) : Prop := (∀ deep a cs h, deep ≤ 6 → MS tp n law a cs h → cs.length + 1 ≤ a → 7 * (n - a) + 2 ≤ f → GV (3 * (6 - deep) + 10) m_M_readTerm [.ref 88, .int (kI (deep : Nat))] h (MPo tp n law (PP tp n law f 1 deep a cs) h))
def MC4 (tp : Nat → Nat) (n law f : Nat) : Prop := (∀ deep a cs h h0, deep ≤ 6 → MS tp n law a cs h → FRd h0 h → cs.length + 1 ≤ a → 7 * (n - a) + 1 ≤ f → Safe (3 * (6 - deep) + 10) m_M_readSum (5, [.ref 88, .int (kI (deep : Nat)), unV], [], h) (fun v h' => Eqv v none ∧ MPo tp n law (PP tp n law f 4 deep a cs) h0 h'))
def MC3 (tp : Nat → Nat) (n law f : Nat) : Prop := (∀ deep a cs h, deep ≤ 6 → MS tp n law a cs h → cs.length + 1 ≤ a → 7 * (n - a) + 3 ≤ f → GV (3 * (6 - deep) + 11) m_M_readSum [.ref 88, .int (kI (deep : Nat))] h (MPo tp n law (PP tp n law f 3 deep a cs) h))
def MC5 (tp : Nat → Nat) (n law f : Nat) : Prop := (∀ deep a cs h, deep ≤ 6 → MS tp n law a cs h → cs.length + 1 ≤ a → 7 * (n - a) + 4 ≤ f → GV (3 * (6 - deep) + 12) m_M_readUnit [.ref 88, .int (kI (deep : Nat))] h (MPo tp n law (PP tp n law f 5 deep a cs) h))
def MC7 (tp : Nat → Nat) (n law f : Nat) : Prop := (∀ deep a cs h h0, deep ≤ 6 → MS tp n law a cs h → FRd h0 h → cs.length + 1 ≤ a → 7 * (n - a) + 1 ≤ f → Safe (3 * (6 - deep) + 12) m_M_readBoth (5, [.ref 88, .int (kI (deep : Nat))], [], h) (fun v h' => Eqv v none ∧ MPo tp n law (PP tp n law f 7 deep a cs) h0 h'))
def MC6 (tp : Nat → Nat) (n law f : Nat) : Prop := (∀ deep a cs h, deep ≤ 6 → MS tp n law a cs h → cs.length + 1 ≤ a → 7 * (n - a) + 5 ≤ f → GV (3 * (6 - deep) + 13) m_M_readBoth [.ref 88, .int (kI (deep : Nat))] h (MPo tp n law (PP tp n law f 6 deep a cs) h))
def MC8 (tp : Nat → Nat) (n law f : Nat) : Prop := (∀ deep a cs h h0, deep ≤ 6 → MS tp n law a cs h → FRd h0 h → cs.length + 1 ≤ a → 7 * (n - a) + 1 ≤ f → Safe (3 * (6 - deep) + 13) m_M_readTruth (5, [.ref 88, .int (kI (deep : Nat))], [], h) (fun v h' => Eqv v none ∧ MPo tp n law (PP tp n law f 8 deep a cs) h0 h'))
def MC9 (tp : Nat → Nat) (n law f : Nat) : Prop := (∀ deep a cs h, deep ≤ 6 → MS tp n law a cs h → cs.length + 1 ≤ a → 7 * (n - a) + 6 ≤ f → GV (3 * (6 - deep) + 14) m_M_readTruth [.ref 88, .int (kI (deep : Nat))] h (MPo tp n law (PP tp n law f 9 deep a cs) h))
theorem M_s1 {tp : Nat → Nat} {n law f : Nat} (H1 : MC0 tp n law f) (H2 : MC2 tp n law f) : MC1 tp n law (f + 1) := by
  intro deep a cs h hd S le hf
  refine GVo (s_M_readTerm_0 ?_)
  rw [kd_88 S.F]
  refine ⟨rfl, ?_⟩
  refine GV.use (H1 deep a cs h hd S le (by omega)) (by omega) (fun h1 e1 => ?_)
  show Safe _ _ _ (fun v h' => Eqv v none ∧ MPo tp n law (thn (PP tp n law f 0 deep a cs) (fun a' cs' => PP tp n law f 2 deep a' cs')) h h')
  cases hr : PP tp n law f 0 deep a cs with
  | error e =>
    rw [hr] at e1
    exact M_readTerm_5d e1.2.1 (by omega) ⟨rfl, e1⟩
  | ok q =>
    rw [hr] at e1
    have g := PP_go f 0 deep a cs q.1 q.2 (by omega) S.an hr
    have g2 := g.2.2.2 (by unfold lpM; omega)
    exact H2 deep q.1 q.2 h1 h hd e1.2 e1.1 (by omega) (by omega)
theorem M_s6 {tp : Nat → Nat} {n law f : Nat} (H1 : MC5 tp n law f) (H2 : MC7 tp n law f) : MC6 tp n law (f + 1) := by
  intro deep a cs h hd S le hf
  refine GVo (s_M_readBoth_0 ?_)
  rw [kd_88 S.F]
  refine ⟨rfl, ?_⟩
  refine GV.use (H1 deep a cs h hd S le (by omega)) (by omega) (fun h1 e1 => ?_)
  show Safe _ _ _ (fun v h' => Eqv v none ∧ MPo tp n law (thn (PP tp n law f 5 deep a cs) (fun a' cs' => PP tp n law f 7 deep a' cs')) h h')
  cases hr : PP tp n law f 5 deep a cs with
  | error e =>
    rw [hr] at e1
    exact M_readBoth_5d e1.2.1 (by omega) ⟨rfl, e1⟩
  | ok q =>
    rw [hr] at e1
    have g := PP_go f 5 deep a cs q.1 q.2 (by omega) S.an hr
    have g2 := g.2.2.2 (by unfold lpM; omega)
    exact H2 deep q.1 q.2 h1 h hd e1.2 e1.1 (by omega) (by omega)
theorem M_s9 {tp : Nat → Nat} {n law f : Nat} (H1 : MC6 tp n law f) (H2 : MC8 tp n law f) : MC9 tp n law (f + 1) := by
  intro deep a cs h hd S le hf
  refine GVo (s_M_readTruth_0 ?_)
  rw [kd_88 S.F]
  refine ⟨rfl, ?_⟩
  refine GV.use (H1 deep a cs h hd S le (by omega)) (by omega) (fun h1 e1 => ?_)
  show Safe _ _ _ (fun v h' => Eqv v none ∧ MPo tp n law (thn (PP tp n law f 6 deep a cs) (fun a' cs' => PP tp n law f 8 deep a' cs')) h h')
  cases hr : PP tp n law f 6 deep a cs with
  | error e =>
    rw [hr] at e1
    exact M_readTruth_5d e1.2.1 (by omega) ⟨rfl, e1⟩
  | ok q =>
    rw [hr] at e1
    have g := PP_go f 6 deep a cs q.1 q.2 (by omega) S.an hr
    have g2 := g.2.2.2 (by unfold lpM; omega)
    exact H2 deep q.1 q.2 h1 h hd e1.2 e1.1 (by omega) (by omega)
theorem M_s2 {tp : Nat → Nat} {n law f : Nat} (hn : n ≤ 900) (H1 : MC0 tp n law f) (H2 : MC2 tp n law f) : MC2 tp n law (f + 1) := by
  intro deep a cs h h0 hd S e0 le hf
  refine s_M_readTerm_5 ?_
  rw [kd_88 S.F]
  refine ⟨rfl, ?_⟩
  show CallI _ _ _ _ (fun x2 h1 => _)
  by_cases q : tKd tp n a = 34
  · have an := kd_n (tp := tp) (n := n) (a := a) (by omega)
    have nb := nxA_b (tp := tp) an
    have eP : PP tp n law (f + 1) 2 deep a cs = thn (PP tp n law f 0 deep (nxA tp n a) cs) (fun a' cs' => PP tp n law f 2 deep a' (cs' ++ [3002])) := by
      show (if tKd tp n a = 34 then _ else _) = _
      rw [if_pos q]
    rw [eP]
    refine GI.use (M_eats_y S (k := 34) q) (by omega) (fun h1 e1 => ?_)
    rw [if_neg (by decide), kd_88 e1.2.F]
    refine ⟨rfl, ?_⟩
    refine GV.use (H1 deep (nxA tp n a) cs h1 hd e1.2 (by omega) (by omega)) (by omega) (fun h2 e2 => ?_)
    cases hr : PP tp n law f 0 deep (nxA tp n a) cs with
    | error e =>
      rw [hr] at e2
      have B := e2.2.1
      rw [kd_88 B.1, M_codes_d B (by omega)]
      exact ⟨rfl, M_readTerm_5d B (by omega) ⟨rfl, e0.trans (e1.1.trans e2.1), e2.2⟩⟩
    | ok q =>
      rw [hr] at e2
      have g := PP_go f 0 deep (nxA tp n a) cs q.1 q.2 (by omega) nb.2 hr
      have g2 := g.2.2.2 (by unfold lpM; omega)
      rw [kd_88 e2.2.F]
      refine ⟨rfl, ?_⟩
      refine GV.use (M_codes_g e2.2 (by omega) 3002) (by omega) (fun h3 e3 => ?_)
      have l1 : (q.2 ++ [3002]).length = q.2.length + 1 := by rw [List.length_append]; rfl
      exact H2 deep q.1 (q.2 ++ [3002]) h3 h0 hd e3.2 (e0.trans (e1.1.trans (e2.1.trans e3.1))) (by omega) (by omega)
  · have eP : PP tp n law (f + 1) 2 deep a cs = .ok (a, cs) := by
      show (if tKd tp n a = 34 then _ else _) = _
      rw [if_neg q]
    refine (M_eats_n S (k := 34) (by omega) q (by omega)).mpr ?_
    rw [if_pos (by decide), eP]
    exact ⟨rfl, e0, S⟩
theorem M_s7 {tp : Nat → Nat} {n law f : Nat} (hn : n ≤ 900) (H1 : MC5 tp n law f) (H2 : MC7 tp n law f) : MC7 tp n law (f + 1) := by
  intro deep a cs h h0 hd S e0 le hf
  refine s_M_readBoth_5 ?_
  rw [kd_88 S.F]
  refine ⟨rfl, ?_⟩
  show CallI _ _ _ _ (fun x2 h1 => _)
  by_cases q : tKd tp n a = 13
  · have an := kd_n (tp := tp) (n := n) (a := a) (by omega)
    have nb := nxA_b (tp := tp) an
    have eP : PP tp n law (f + 1) 7 deep a cs = thn (PP tp n law f 5 deep (nxA tp n a) cs) (fun a' cs' => PP tp n law f 7 deep a' (cs' ++ [3007])) := by
      show (if tKd tp n a = 13 then _ else _) = _
      rw [if_pos q]
    rw [eP]
    refine GI.use (M_eats_y S (k := 13) q) (by omega) (fun h1 e1 => ?_)
    rw [if_neg (by decide), kd_88 e1.2.F]
    refine ⟨rfl, ?_⟩
    refine GV.use (H1 deep (nxA tp n a) cs h1 hd e1.2 (by omega) (by omega)) (by omega) (fun h2 e2 => ?_)
    cases hr : PP tp n law f 5 deep (nxA tp n a) cs with
    | error e =>
      rw [hr] at e2
      have B := e2.2.1
      rw [kd_88 B.1, M_codes_d B (by omega)]
      exact ⟨rfl, M_readBoth_5d B (by omega) ⟨rfl, e0.trans (e1.1.trans e2.1), e2.2⟩⟩
    | ok q =>
      rw [hr] at e2
      have g := PP_go f 5 deep (nxA tp n a) cs q.1 q.2 (by omega) nb.2 hr
      have g2 := g.2.2.2 (by unfold lpM; omega)
      rw [kd_88 e2.2.F]
      refine ⟨rfl, ?_⟩
      refine GV.use (M_codes_g e2.2 (by omega) 3007) (by omega) (fun h3 e3 => ?_)
      have l1 : (q.2 ++ [3007]).length = q.2.length + 1 := by rw [List.length_append]; rfl
      exact H2 deep q.1 (q.2 ++ [3007]) h3 h0 hd e3.2 (e0.trans (e1.1.trans (e2.1.trans e3.1))) (by omega) (by omega)
  · have eP : PP tp n law (f + 1) 7 deep a cs = .ok (a, cs) := by
      show (if tKd tp n a = 13 then _ else _) = _
      rw [if_neg q]
    refine (M_eats_n S (k := 13) (by omega) q (by omega)).mpr ?_
    rw [if_pos (by decide), eP]
    exact ⟨rfl, e0, S⟩
theorem M_s8 {tp : Nat → Nat} {n law f : Nat} (hn : n ≤ 900) (H1 : MC6 tp n law f) (H2 : MC8 tp n law f) : MC8 tp n law (f + 1) := by
  intro deep a cs h h0 hd S e0 le hf
  refine s_M_readTruth_5 ?_
  rw [kd_88 S.F]
  refine ⟨rfl, ?_⟩
  show CallI _ _ _ _ (fun x2 h1 => _)
  by_cases q : tKd tp n a = 14
  · have an := kd_n (tp := tp) (n := n) (a := a) (by omega)
    have nb := nxA_b (tp := tp) an
    have eP : PP tp n law (f + 1) 8 deep a cs = thn (PP tp n law f 6 deep (nxA tp n a) cs) (fun a' cs' => PP tp n law f 8 deep a' (cs' ++ [3008])) := by
      show (if tKd tp n a = 14 then _ else _) = _
      rw [if_pos q]
    rw [eP]
    refine GI.use (M_eats_y S (k := 14) q) (by omega) (fun h1 e1 => ?_)
    rw [if_neg (by decide), kd_88 e1.2.F]
    refine ⟨rfl, ?_⟩
    refine GV.use (H1 deep (nxA tp n a) cs h1 hd e1.2 (by omega) (by omega)) (by omega) (fun h2 e2 => ?_)
    cases hr : PP tp n law f 6 deep (nxA tp n a) cs with
    | error e =>
      rw [hr] at e2
      have B := e2.2.1
      rw [kd_88 B.1, M_codes_d B (by omega)]
      exact ⟨rfl, M_readTruth_5d B (by omega) ⟨rfl, e0.trans (e1.1.trans e2.1), e2.2⟩⟩
    | ok q =>
      rw [hr] at e2
      have g := PP_go f 6 deep (nxA tp n a) cs q.1 q.2 (by omega) nb.2 hr
      have g2 := g.2.2.2 (by unfold lpM; omega)
      rw [kd_88 e2.2.F]
      refine ⟨rfl, ?_⟩
      refine GV.use (M_codes_g e2.2 (by omega) 3008) (by omega) (fun h3 e3 => ?_)
      have l1 : (q.2 ++ [3008]).length = q.2.length + 1 := by rw [List.length_append]; rfl
      exact H2 deep q.1 (q.2 ++ [3008]) h3 h0 hd e3.2 (e0.trans (e1.1.trans (e2.1.trans e3.1))) (by omega) (by omega)
  · have eP : PP tp n law (f + 1) 8 deep a cs = .ok (a, cs) := by
      show (if tKd tp n a = 14 then _ else _) = _
      rw [if_neg q]
    refine (M_eats_n S (k := 14) (by omega) q (by omega)).mpr ?_
    rw [if_pos (by decide), eP]
    exact ⟨rfl, e0, S⟩
theorem M_s3 {tp : Nat → Nat} {n law f : Nat} (H1 : MC1 tp n law f) (H2 : MC4 tp n law f) : MC3 tp n law (f + 1) := by
  intro deep a cs h hd S le hf
  refine GVo (s_M_readSum_0 ?_)
  rw [kd_88 S.F]
  refine ⟨rfl, ?_⟩
  refine GV.use (H1 deep a cs h hd S le (by omega)) (by omega) (fun h1 e1 => ?_)
  show Safe _ _ _ (fun v h' => Eqv v none ∧ MPo tp n law (thn (PP tp n law f 1 deep a cs) (fun a' cs' => PP tp n law f 4 deep a' cs')) h h')
  cases hr : PP tp n law f 1 deep a cs with
  | error e =>
    rw [hr] at e1
    exact M_readSum_5d e1.2.1 (by omega) ⟨rfl, e1⟩
  | ok q =>
    rw [hr] at e1
    have g := PP_go f 1 deep a cs q.1 q.2 (by omega) S.an hr
    have g2 := g.2.2.2 (by unfold lpM; omega)
    exact H2 deep q.1 q.2 h1 h hd e1.2 e1.1 (by omega) (by omega)
theorem M_s4 {tp : Nat → Nat} {n law f : Nat} (hn : n ≤ 900) (H1 : MC1 tp n law f) (H2 : MC4 tp n law f) : MC4 tp n law (f + 1) := by
  intro deep a cs h h0 hd S e0 le hf
  have kb := tKd_b tp n a
  by_cases q : tKd tp n a = 32 ∨ tKd tp n a = 33
  · have an := kd_n (tp := tp) (n := n) (a := a) (by omega)
    have nb := nxA_b (tp := tp) an
    obtain ⟨x, hx⟩ : ∃ x : Nat, x = if tKd tp n a = 32 then 3000 else 3001 := ⟨_, rfl⟩
    have eP : PP tp n law (f + 1) 4 deep a cs = thn (PP tp n law f 1 deep (nxA tp n a) cs) (fun a' cs' => PP tp n law f 4 deep a' (cs' ++ [x])) := by
      show (if tKd tp n a = 32 ∨ tKd tp n a = 33 then _ else _) = _
      rw [if_pos q, hx]
    rw [eP]
    have s41 : Safe (3 * (6 - deep) + 10) m_M_readSum (41, [.ref 88, .int (kI (deep : Nat)), unV], [.int (kI (x : Nat))], h) (fun v h' => Eqv v none ∧ MPo tp n law (thn (PP tp n law f 1 deep (nxA tp n a) cs) (fun a' cs' => PP tp n law f 4 deep a' (cs' ++ [x]))) h0 h') := by
      refine s_M_readSum_41 ?_
      rw [kd_88 S.F]
      refine ⟨rfl, ?_⟩
      refine GV.use (M_nextS S) (by omega) (fun h1 e1 => ?_)
      rw [kd_88 e1.2.F]
      refine ⟨rfl, ?_⟩
      refine GV.use (H1 deep (nxA tp n a) cs h1 hd e1.2 (by omega) (by omega)) (by omega) (fun h2 e2 => ?_)
      cases hr : PP tp n law f 1 deep (nxA tp n a) cs with
      | error e =>
        rw [hr] at e2
        have B := e2.2.1
        rw [kd_88 B.1, M_codes_d B (by omega)]
        exact ⟨rfl, M_readSum_5d B (by omega) ⟨rfl, e0.trans (e1.1.trans e2.1), e2.2⟩⟩
      | ok q =>
        rw [hr] at e2
        have g := PP_go f 1 deep (nxA tp n a) cs q.1 q.2 (by omega) nb.2 hr
        have g2 := g.2.2.2 (by unfold lpM; omega)
        rw [kd_88 e2.2.F]
        refine ⟨rfl, ?_⟩
        refine GV.use (M_codes_g e2.2 (by omega) x) (by omega) (fun h3 e3 => ?_)
        have l1 : (q.2 ++ [x]).length = q.2.length + 1 := by rw [List.length_append]; rfl
        exact H2 deep q.1 (q.2 ++ [x]) h3 h0 hd e3.2 (e0.trans (e1.1.trans (e2.1.trans e3.1))) (by omega) (by omega)
    have s23 : Safe (3 * (6 - deep) + 10) m_M_readSum (23, [.ref 88, .int (kI (deep : Nat)), unV], [], h) (fun v h' => Eqv v none ∧ MPo tp n law (thn (PP tp n law f 1 deep (nxA tp n a) cs) (fun a' cs' => PP tp n law f 4 deep a' (cs' ++ [x]))) h0 h') := by
      refine s_M_readSum_23 ?_
      rw [kd_88 S.F, S.i9]
      refine ⟨rfl, ?_⟩
      by_cases z : tKd tp n a = 32
      · rw [if_pos z] at hx
        rw [if_neg (by rw [z]; simp)]
        rw [hx] at s41 ⊢
        exact s41
      · rw [if_neg z] at hx
        rw [if_pos (by rw [Bool.not_eq_true', decide_eq_false_iff_not, kI_inj (by omega) (by omega) (by omega) (by omega)]; omega)]
        rw [hx] at s41 ⊢
        exact s41
    refine s_M_readSum_5 ?_
    rw [kd_88 S.F]
    refine ⟨rfl, (M_is_c S (k := 32) (by omega) (by omega)).mpr ?_⟩
    by_cases z : tKd tp n a = 32
    · rw [if_pos (by rw [Bool.not_eq_true', decide_eq_false_iff_not, bI_0]; exact fun y => y z)]
      exact s23
    · rw [if_neg (by rw [Bool.not_eq_true', decide_eq_false_iff_not, bI_0]; exact fun y => y z), kd_88 S.F]
      refine ⟨rfl, (M_is_c S (k := 33) (by omega) (by omega)).mpr ?_⟩
      rw [if_neg (by rw [dec_b0]; exact fun y => y (by omega))]
      exact s23
  · have eP : PP tp n law (f + 1) 4 deep a cs = .ok (a, cs) := by
      show (if tKd tp n a = 32 ∨ tKd tp n a = 33 then _ else _) = _
      rw [if_neg q]
    rw [eP]
    refine s_M_readSum_5 ?_
    rw [kd_88 S.F]
    refine ⟨rfl, (M_is_c S (k := 32) (by omega) (by omega)).mpr ?_⟩
    rw [if_neg (by rw [Bool.not_eq_true', decide_eq_false_iff_not, bI_0]; exact fun y => y (by omega)), kd_88 S.F]
    refine ⟨rfl, (M_is_c S (k := 33) (by omega) (by omega)).mpr ?_⟩
    rw [if_pos (by rw [dec_b0]; omega)]
    exact ⟨rfl, e0, S⟩
theorem M_s0 {tp : Nat → Nat} {n law f : Nat} (hn : n ≤ 900) (hl : law ≤ 1) (H1 : MC3 tp n law f) : MC0 tp n law (f + 1) := by
  intro deep a cs h hd S le hf
  have kb := tKd_b tp n a
  have an0 := S.an
  refine GVo (s_M_readAtom_0 ?_)
  rw [kd_88 S.F]
  refine ⟨rfl, (M_is_c S (k := 23) (by omega) (by omega)).mpr ?_⟩
  by_cases q : tKd tp n a = 23
  · have eP : PP tp n law (f + 1) 0 deep a cs = .ok (nxA tp n a, cs ++ [tNm tp n a]) := by
      show (if tKd tp n a = 23 then _ else _) = _
      rw [if_pos q]
    rw [eP, if_neg (by rw [dec_b0]; exact fun y => y q), kd_88 S.F, S.i10 q]
    refine ⟨rfl, rfl, ?_⟩
    refine GV.use (M_codes_g S (by omega) _) (by omega) (fun h1 e1 => ?_)
    rw [kd_88 e1.2.F]
    refine ⟨rfl, ?_⟩
    exact GV.use (M_nextS e1.2) (by omega) (fun h2 e2 => ⟨rfl, e1.1.trans e2.1, e2.2⟩)
  · rw [if_pos (by rw [dec_b0]; exact q), kd_88 S.F, S.i11, if_neg (by decide), S.i9]
    refine ⟨rfl, rfl, rfl, (M_wordOf_c S hl (by omega) (by omega)).mpr ?_⟩
    cases hw : wdO law (tKd tp n a) with
    | some w =>
      have wb := wdO_some hw
      have eP : PP tp n law (f + 1) 0 deep a cs = .ok (nxA tp n a, cs ++ [1000 + w]) := by
        show (if tKd tp n a = 23 then _ else match wdO law (tKd tp n a) with
          | some w => _
          | none => _) = _
        rw [if_neg q, hw]
      dsimp only
      rw [eP, if_neg (by rw [decide_eq_true_eq, kI_inj (by omega) (by omega) (by omega) (by omega)]; omega), kd_88 S.F, S.i9]
      refine ⟨rfl, rfl, (M_wordOf_c S hl (by omega) (by omega)).mpr ?_⟩
      rw [hw]
      dsimp only
      rw [kd_88 S.F, kI_add]
      refine ⟨rfl, ?_⟩
      refine GV.use (M_codes_g S (by omega) (1000 + w)) (by omega) (fun h1 e1 => ?_)
      rw [kd_88 e1.2.F]
      refine ⟨rfl, ?_⟩
      exact GV.use (M_nextS e1.2) (by omega) (fun h2 e2 => ⟨rfl, e1.1.trans e2.1, e2.2⟩)
    | none =>
      dsimp only
      rw [if_pos (by decide)]
      refine s_M_readAtom_66 ?_
      rw [kd_88 S.F]
      refine ⟨rfl, (M_is_c S (k := 35) (by omega) (by omega)).mpr ?_⟩
      by_cases q2 : tKd tp n a = 35
      · rw [if_neg (by rw [dec_b0]; exact fun y => y q2), kd_88 S.F]
        refine ⟨rfl, ?_⟩
        by_cases q3 : deep = 6
        · have eP : PP tp n law (f + 1) 0 deep a cs = .error (4, a) := by
            show (if tKd tp n a = 23 then _ else match wdO law (tKd tp n a) with
              | some w => _
              | none => _) = _
            rw [if_neg q, hw]
            dsimp only
            rw [if_pos q2, if_pos q3]
          rw [eP, q3]
          refine GI.use (M_goesIn_n S (by omega)) (by omega) (fun h1 e1 => ?_)
          rw [if_neg (by decide)]
          exact ⟨rfl, e1.1, e1.2⟩
        · have an := kd_n (tp := tp) (n := n) (a := a) (by omega)
          have nb := nxA_b (tp := tp) an
          have eP : PP tp n law (f + 1) 0 deep a cs = thn (PP tp n law f 3 (deep + 1) (nxA tp n a) cs) (fun a' cs' => if tKd tp n a' = 36 then .ok (nxA tp n a', cs') else .error (fkF tp n a' 2, a')) := by
            show (if tKd tp n a = 23 then _ else match wdO law (tKd tp n a) with
              | some w => _
              | none => _) = _
            rw [if_neg q, hw]
            dsimp only
            rw [if_pos q2, if_neg q3]
          rw [eP]
          refine GI.use (M_goesIn_y S (deep := deep) (by omega)) (by omega) (fun h1 e1 => ?_)
          rw [if_pos (by decide), kd_88 e1.2.F, kI_add]
          refine ⟨rfl, ?_⟩
          refine GV.use (H1 (deep + 1) (nxA tp n a) cs h1 (by omega) e1.2 (by omega) (by omega)) (by omega) (fun h2 e2 => ?_)
          cases hr : PP tp n law f 3 (deep + 1) (nxA tp n a) cs with
          | error e =>
            rw [hr] at e2
            have B := e2.2.1
            rw [kd_88 B.1, M_eats_d B (by omega), if_neg (by decide), kd_88 B.1, M_fails_d B (by omega)]
            exact ⟨rfl, rfl, rfl, e1.1.trans e2.1, e2.2⟩
          | ok p =>
            rw [hr] at e2
            have S2 := e2.2
            show _ ∧ CallI _ _ _ _ _
            rw [kd_88 S2.F]
            refine ⟨rfl, ?_⟩
            by_cases q4 : tKd tp n p.1 = 36
            · have eT : thn (.ok p) (fun a' cs' => if tKd tp n a' = 36 then (.ok (nxA tp n a', cs') : PR) else .error (fkF tp n a' 2, a')) = .ok (nxA tp n p.1, p.2) := by
                show (if tKd tp n p.1 = 36 then _ else _) = _
                rw [if_pos q4]
              rw [eT]
              refine GI.use (M_eats_y S2 (k := 36) q4) (by omega) (fun h3 e3 => ?_)
              rw [if_pos (by decide)]
              exact ⟨rfl, e1.1.trans (e2.1.trans e3.1), e3.2⟩
            · have eT : thn (.ok p) (fun a' cs' => if tKd tp n a' = 36 then (.ok (nxA tp n a', cs') : PR) else .error (fkF tp n a' 2, a')) = .error (fkF tp n p.1 2, p.1) := by
                show (if tKd tp n p.1 = 36 then _ else _) = _
                rw [if_neg q4]
              rw [eT]
              refine (M_eats_n S2 (k := 36) (by omega) q4 (by omega)).mpr ?_
              rw [if_neg (by decide), kd_88 S2.F]
              refine ⟨rfl, ?_⟩
              exact GV.use (M_fails_g S2 (k := 2) (by omega) (by omega)) (by omega) (fun h3 e3 => ⟨rfl, e1.1.trans (e2.1.trans e3.1), e3.2⟩)
      · have eP : PP tp n law (f + 1) 0 deep a cs = .error (fkF tp n a 2, a) := by
          show (if tKd tp n a = 23 then _ else match wdO law (tKd tp n a) with
            | some w => _
            | none => _) = _
          rw [if_neg q, hw]
          dsimp only
          rw [if_neg q2]
        rw [eP, if_pos (by rw [dec_b0]; exact q2), kd_88 S.F]
        refine ⟨rfl, ?_⟩
        exact GV.use (M_fails_g S (k := 2) (by omega) (by omega)) (by omega) (fun h3 e3 => ⟨rfl, e3.1, e3.2⟩)
