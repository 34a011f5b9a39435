/-! numbers, write -/
def upT (w : TW) (t : Nat) (so : Int) (n : Nat) (f : Nat → Int) : TW := (fun u => if u = t then so else w.1 u, fun u => if u = t then n else w.2.1 u, fun u => if u = t then f else w.2.2 u)
theorem upT_x {w : TW} {t : Nat} {so : Int} {n : Nat} {f : Nat → Int} {h h' : AH} (X : XTs w h) (e : ∀ a k, a ≠ 74 + 2 * t → a ≠ 75 + 2 * t → ivA h' a k = ivA h a k ∧ jvA h' a k = jvA h a k) (N : XT t so n f h') : XTs (upT w t so n f) h' := by
  intro u hu
  unfold upT
  by_cases q : u = t
  · subst q
    simp only [if_true]
    exact N
  · simp only [if_neg q]
    have := X u hu
    unfold XT at this ⊢
    simp only [(e (74 + 2 * u) _ (by omega) (by omega)).1, (e (75 + 2 * u) _ (by omega) (by omega)).2]
    exact this
theorem upT_w {w : TW} {t : Nat} {so : Int} {n : Nat} {f : Nat → Int} (W : WTs w) (N : WFT so n f) : WTs (upT w t so n f) := by
  intro u hu
  unfold upT
  by_cases q : u = t
  · simp only [if_pos q]; exact N
  · simp only [if_neg q]; exact W u hu
theorem X_numbers_g {T : Nat → Nat} {s : ST} {p : Nat} {y : DY} {v : Int} {hs : List DY} {nx : Nat} {h : AH} (B : BX T s p y v hs nx h) {w : TW} (X : XTs w h) {t so n : Nat} (ht : t < 4) (hs : so ≤ 3) (hn : n ≤ 40) : GI 3 m_X_numbers [.ref 1, .int (kI t), .int (kI so), .int (kI n)] h (kI 0) (fun h' => Fr (fun a _ => 74 ≤ a ∧ a ≤ 81) (fun a _ => 74 ≤ a ∧ a ≤ 81) h h' ∧ XTs (upT w t so n (fun _ => 0)) h') := by
  have F := B.F
  have Tf := tr_fix F ht
  refine GIo (s_X_numbers_0 ?_)
  have p1 : (0 ≤ (t : Int) ∧ (t : Int) < 4) = True := eq_true (by omega)
  simp (disch := omega) only [kd_1 F, rv_1_11 F, kd_73 F, ln_73 F, Tf.1, Tf.2.1, ix_lit, inB_lit, decide_true, Bool.true_or, Bool.or_true, true_and, and_true, kI_add, kI_sub, kI_mul, tn_add, Int.toNat_natCast, Int.reduceToNat, kI_le, kI_lt, kI_inj, decide_eq_true_eq, Bool.not_eq_true', decide_eq_false_iff_not, not_true_eq_false, not_false_eq_true, Classical.not_not, Bool.false_eq_true, if_true, if_false, z0, bI_k0, bI_k1, isB_b, isB_0, isB_1, kI_long, kd_stI, ln_stI, rv_stI, X_isTray_c, p1, Nat.reduceLeDiff]
  rw [if_neg (by omega), if_pos (by omega), if_neg (by omega), if_pos (by omega)]
  refine GV.use (Tr_lay_g ht F hs hn) (by omega) (fun h1 e1 => ?_)
  exact ⟨rfl, e1.1.mono (fun a k w => by omega) (fun a k w => by omega), upT_x X (fun a k q1 q2 => ⟨e1.1.2.2.2.2.2.1 a k q1, e1.1.2.2.2.2.2.2 a k q2⟩) e1.2⟩
theorem X_numbers_no {h : AH} {t so n : Int} (t1 : -2147483648 ≤ t) (t2 : t ≤ 2147483647) (s1 : -2147483648 ≤ so) (s2 : so ≤ 2147483647) (n1 : -2147483648 ≤ n) (n2 : n ≤ 2147483647) (no : ¬ ((0 ≤ t ∧ t < 4) ∧ (0 ≤ so ∧ so ≤ 3) ∧ (0 ≤ n ∧ n ≤ 40))) : GI 2 m_X_numbers [.ref 1, .int (kI t), .int (kI so), .int (kI n)] h (kI (if (0 ≤ t ∧ t < 4) ∧ (0 ≤ so ∧ so ≤ 3) then -3 else -2)) (fun h' => h' = h) := by
  refine GIo (s_X_numbers_0 ?_)
  by_cases q : 0 ≤ t ∧ t < 4
  · have p1 : (0 ≤ t ∧ t < 4) = True := eq_true q
    by_cases q2 : 0 ≤ so ∧ so ≤ 3
    · rw [if_pos ⟨q, q2⟩]
      have a1 : ¬ so < 0 := by omega
      have a2 : so < 4 := by omega
      by_cases q3 : n < 0
      · simp (disch := omega) only [ix_lit, inB_lit, decide_true, Bool.true_or, Bool.or_true, true_and, and_true, kI_add, kI_sub, kI_mul, tn_add, Int.toNat_natCast, Int.reduceToNat, kI_le, kI_lt, kI_inj, decide_eq_true_eq, Bool.not_eq_true', decide_eq_false_iff_not, not_true_eq_false, not_false_eq_true, Classical.not_not, Bool.false_eq_true, if_true, if_false, z0, bI_k0, bI_k1, isB_b, isB_0, isB_1, kI_long, kd_stI, ln_stI, rv_stI, X_isTray_c, p1, a1, a2, q3]
        first | exact ⟨rfl, rfl⟩ | exact rfl
      · have a3 : ¬ n ≤ 40 := fun z => no ⟨q, q2, by omega⟩
        simp (disch := omega) only [ix_lit, inB_lit, decide_true, Bool.true_or, Bool.or_true, true_and, and_true, kI_add, kI_sub, kI_mul, tn_add, Int.toNat_natCast, Int.reduceToNat, kI_le, kI_lt, kI_inj, decide_eq_true_eq, Bool.not_eq_true', decide_eq_false_iff_not, not_true_eq_false, not_false_eq_true, Classical.not_not, Bool.false_eq_true, if_true, if_false, z0, bI_k0, bI_k1, isB_b, isB_0, isB_1, kI_long, kd_stI, ln_stI, rv_stI, X_isTray_c, p1, a1, a2, q3, a3]
        first | exact ⟨rfl, rfl⟩ | exact rfl
    · rw [if_neg (fun w => q2 w.2)]
      by_cases a1 : so < 0
      · simp (disch := omega) only [ix_lit, inB_lit, decide_true, Bool.true_or, Bool.or_true, true_and, and_true, kI_add, kI_sub, kI_mul, tn_add, Int.toNat_natCast, Int.reduceToNat, kI_le, kI_lt, kI_inj, decide_eq_true_eq, Bool.not_eq_true', decide_eq_false_iff_not, not_true_eq_false, not_false_eq_true, Classical.not_not, Bool.false_eq_true, if_true, if_false, z0, bI_k0, bI_k1, isB_b, isB_0, isB_1, kI_long, kd_stI, ln_stI, rv_stI, X_isTray_c, p1, a1]
        first | exact ⟨rfl, rfl⟩ | exact rfl
      · have a2 : ¬ so < 4 := by omega
        simp (disch := omega) only [ix_lit, inB_lit, decide_true, Bool.true_or, Bool.or_true, true_and, and_true, kI_add, kI_sub, kI_mul, tn_add, Int.toNat_natCast, Int.reduceToNat, kI_le, kI_lt, kI_inj, decide_eq_true_eq, Bool.not_eq_true', decide_eq_false_iff_not, not_true_eq_false, not_false_eq_true, Classical.not_not, Bool.false_eq_true, if_true, if_false, z0, bI_k0, bI_k1, isB_b, isB_0, isB_1, kI_long, kd_stI, ln_stI, rv_stI, X_isTray_c, p1, a1, a2]
        first | exact ⟨rfl, rfl⟩ | exact rfl
  · rw [if_neg (fun w => q w.1)]
    simp (disch := omega) only [ix_lit, inB_lit, decide_true, Bool.true_or, Bool.or_true, true_and, and_true, kI_add, kI_sub, kI_mul, tn_add, Int.toNat_natCast, Int.reduceToNat, kI_le, kI_lt, kI_inj, decide_eq_true_eq, Bool.not_eq_true', decide_eq_false_iff_not, not_true_eq_false, not_false_eq_true, Classical.not_not, Bool.false_eq_true, if_true, if_false, z0, bI_k0, bI_k1, isB_b, isB_0, isB_1, kI_long, kd_stI, ln_stI, rv_stI, X_isTray_c, eq_false q]
    first | exact ⟨rfl, rfl⟩ | exact rfl
def IT (a k : Nat) : Prop := (a = 88 ∧ k = 0) ∨ (103 ≤ a ∧ a ≤ 104)
theorem upT_m {w : TW} {t : Nat} {so : Int} {n : Nat} {f : Nat → Int} {h h' : AH} (ht : t < 4) (W : WTs w) (X : MTs w h) (e : ∀ u, u ≠ t → u < 4 → ivA h' 103 u = ivA h 103 u ∧ ivA h' 104 u = ivA h 104 u ∧ ∀ i, i < 40 → jvA h' 105 (40 * u + i) = jvA h 105 (40 * u + i)) (N : MT t so n f h') : MTs (upT w t so n f) h' := by
  intro u hu
  unfold upT
  by_cases q : u = t
  · subst q
    simp only [if_true]
    exact N
  · simp only [if_neg q]
    have := X u hu
    have eu := e u q hu
    have wn := (W u hu).2.2.1
    refine ⟨by rw [eu.1]; exact this.1, fun z => ⟨by rw [eu.2.1]; exact (this.2 z).1, fun i hi => by rw [eu.2.2 i (by omega)]; exact (this.2 z).2 i hi⟩⟩
theorem M_numbers_g {s : ST} {y : DY} {hs : List DY} {h : AH} (B : BM s y hs h) {w : TW} (X : MTs w h) (W : WTs w) {t so n : Nat} (ht : t < 4) (hs : so ≤ 3) (hn : n ≤ 40) : GI 2 m_M_numbers [.ref 88, .int (kI t), .int (kI so), .int (kI n)] h (kI 0) (fun h' => Fr IT (fun a _ => a = 105) h h' ∧ MTs (upT w t so n (fun _ => 0)) h') := by
  have F := B.M.fix
  have e0 := f88 h
  have F0 := e0.fix F
  refine GIo (s_M_numbers_0 ?_)
  have p1 : (0 ≤ (t : Int) ∧ (t : Int) ≤ 3) = True := eq_true (by omega)
  have p2 : (0 ≤ (so : Int) ∧ (so : Int) ≤ 3) = True := eq_true (by omega)
  have p3 : (0 ≤ (n : Int) ∧ (n : Int) ≤ 40) = True := eq_true (by omega)
  simp (disch := omega) only [kd_88 F, rv_88_28 F, kd_103 F, ln_103 F, rv_88_29 F, kd_104 F, ln_104 F, M_within_c, p1, p2, p3, ix_lit, inB_lit, decide_true, Bool.true_or, Bool.or_true, true_and, and_true, kI_add, kI_sub, kI_mul, tn_add, Int.toNat_natCast, Int.reduceToNat, kI_le, kI_lt, kI_inj, decide_eq_true_eq, Bool.not_eq_true', decide_eq_false_iff_not, not_true_eq_false, not_false_eq_true, Classical.not_not, Bool.false_eq_true, if_true, if_false, z0, bI_k0, bI_k1, isB_b, isB_0, isB_1, kI_long, kd_stI, ln_stI, rv_stI]
  have f1 : Fr IT (fun a _ => a = 105) h (stI (stI (stI h 88 0 (kI 0)) 103 t (kI so)) 104 t (kI n)) := (((Fr_rfl IT (fun a _ => a = 105) h).stI (Or.inl ⟨rfl, rfl⟩) _).stI (Or.inr ⟨by omega, by omega⟩) _).stI (Or.inr ⟨by omega, by omega⟩) _
  generalize hz : stI (stI (stI h 88 0 (kI 0)) 103 t (kI so)) 104 t (kI n) = h1 at f1 ⊢
  have a3 : ∀ u, ivA h1 103 u = if u = t then kI so else ivA h 103 u := fun u => by
    rw [← hz, iv_stI, if_neg (by omega), iv_stI]
    by_cases q : u = t
    · rw [if_pos ⟨rfl, q⟩, if_pos q]
    · rw [if_neg (fun w => q w.2), if_neg q, iv_stI, if_neg (by omega)]
  have a4 : ∀ u, ivA h1 104 u = if u = t then kI n else ivA h 104 u := fun u => by
    rw [← hz, iv_stI]
    by_cases q : u = t
    · rw [if_pos ⟨rfl, q⟩, if_pos q]
    · rw [if_neg (fun w => q w.2), if_neg q, iv_stI, if_neg (by omega), iv_stI, if_neg (by omega)]
  have j1 : ∀ i, jvA h1 105 i = jvA h 105 i := fun i => by rw [← hz]; rfl
  suffices H : ∀ k, k ≤ n → ∀ h2, Fr I0 (fun a _ => a = 105) h1 h2 → (∀ j, j < k → jvA h2 105 (40 * t + j) = kJ 0) → (∀ j, ¬ (40 * t ≤ j ∧ j < 40 * t + 40) → jvA h2 105 j = jvA h1 105 j) → Safe 1 m_M_numbers (64, [.ref 88, .int (kI t), unV, .int (kI n), .int (kI k)], [], h2) (fun x h' => Eqv x (some (.int (kI 0))) ∧ Fr IT (fun a _ => a = 105) h h' ∧ MTs (upT w t so n (fun _ => 0)) h') by
    exact H 0 (by omega) h1 (Fr_rfl _ _ _) (fun j hj => by omega) (fun j _ => rfl)
  refine down_ind n ?_ ?_
  · intro h2 e2 H1 H2
    refine s_M_numbers_64 ?_
    simp (disch := omega) only [ix_lit, inB_lit, decide_true, Bool.true_or, Bool.or_true, true_and, and_true, kI_add, kI_sub, kI_mul, tn_add, Int.toNat_natCast, Int.reduceToNat, kI_le, kI_lt, kI_inj, decide_eq_true_eq, Bool.not_eq_true', decide_eq_false_iff_not, not_true_eq_false, not_false_eq_true, Classical.not_not, Bool.false_eq_true, if_true, if_false, z0, bI_k0, bI_k1, isB_b, isB_0, isB_1, kI_long, kd_stI, ln_stI, rv_stI, Int.le_refl]
    have i2 : ∀ a k, ivA h2 a k = ivA h1 a k := fun a k => e2.2.2.2.2.2.1 a k (fun w => w)
    refine ⟨rfl, f1.trans (e2.mono (fun _ _ w => w.elim) (fun _ _ w => w)), upT_m ht W X (fun u q hu => ⟨?_, ?_, fun i hi => ?_⟩) ⟨?_, fun _ => ⟨?_, fun i hi => ?_⟩⟩⟩
    · rw [i2, a3, if_neg q]
    · rw [i2, a4, if_neg q]
    · rw [H2 _ (by omega), j1]
    · rw [i2, a3, if_pos rfl]
    · rw [i2, a4, if_pos rfl]
    · exact H1 i hi
  · intro k hk ih h2 e2 H1 H2
    have F2 := e2.fix (f1.fix F)
    have ei : (40 * (t : Int) + (k : Int)).toNat = 40 * t + k := by omega
    refine s_M_numbers_64 ?_
    simp (disch := omega) only [kd_88 F2, rv_88_30 F2, kd_105 F2, ln_105 F2, ix_lit, inB_lit, decide_true, true_and, kI_add, kI_mul, kI_le, decide_eq_true_eq, ei]
    rw [if_neg (by omega)]
    refine ih (stJ h2 105 (40 * t + k) (kJ 0)) (e2.stJ rfl _) (fun j hj => ?_) (fun j hj => ?_)
    · rw [jv_stJ]
      by_cases q : j = k
      · rw [if_pos (by omega)]
      · rw [if_neg (by omega)]
        exact H1 j (by omega)
    · rw [jv_stJ, if_neg (by omega)]
      exact H2 j hj
theorem M_numbers_no {h : AH} (F : Fix h) {t so n : Int} (t1 : -2147483648 ≤ t) (t2 : t ≤ 2147483647) (s1 : -2147483648 ≤ so) (s2 : so ≤ 2147483647) (n1 : -2147483648 ≤ n) (n2 : n ≤ 2147483647) (no : ¬ ((0 ≤ t ∧ t < 4) ∧ (0 ≤ so ∧ so ≤ 3) ∧ (0 ≤ n ∧ n ≤ 40))) : GI 2 m_M_numbers [.ref 88, .int (kI t), .int (kI so), .int (kI n)] h (kI (if (0 ≤ t ∧ t < 4) ∧ (0 ≤ so ∧ so ≤ 3) then -3 else -2)) (fun h' => h' = stI h 88 0 (kI 0)) := by
  refine GIo (s_M_numbers_0 ?_)
  by_cases q : 0 ≤ t ∧ t < 4
  · have p1 : (0 ≤ t ∧ t ≤ 3) = True := eq_true (by omega)
    by_cases q2 : 0 ≤ so ∧ so ≤ 3
    · rw [if_pos ⟨q, q2⟩]
      have p2 : (0 ≤ so ∧ so ≤ 3) = True := eq_true q2
      have p3 : (0 ≤ n ∧ n ≤ 40) = False := eq_false (fun z => no ⟨q, q2, z⟩)
      simp (disch := omega) only [kd_88 F, M_within_c, ix_lit, inB_lit, decide_true, Bool.true_or, Bool.or_true, true_and, and_true, kI_add, kI_sub, kI_mul, tn_add, Int.toNat_natCast, Int.reduceToNat, kI_le, kI_lt, kI_inj, decide_eq_true_eq, Bool.not_eq_true', decide_eq_false_iff_not, not_true_eq_false, not_false_eq_true, Classical.not_not, Bool.false_eq_true, if_true, if_false, z0, bI_k0, bI_k1, isB_b, isB_0, isB_1, kI_long, kd_stI, ln_stI, rv_stI, p1, p2, p3]
      first | exact ⟨rfl, rfl⟩ | exact rfl
    · rw [if_neg (fun w => q2 w.2)]
      simp (disch := omega) only [kd_88 F, M_within_c, ix_lit, inB_lit, decide_true, Bool.true_or, Bool.or_true, true_and, and_true, kI_add, kI_sub, kI_mul, tn_add, Int.toNat_natCast, Int.reduceToNat, kI_le, kI_lt, kI_inj, decide_eq_true_eq, Bool.not_eq_true', decide_eq_false_iff_not, not_true_eq_false, not_false_eq_true, Classical.not_not, Bool.false_eq_true, if_true, if_false, z0, bI_k0, bI_k1, isB_b, isB_0, isB_1, kI_long, kd_stI, ln_stI, rv_stI, p1, eq_false q2]
      first | exact ⟨rfl, rfl⟩ | exact rfl
  · rw [if_neg (fun w => q w.1)]
    have p1 : (0 ≤ t ∧ t ≤ 3) = False := eq_false (by omega)
    simp (disch := omega) only [kd_88 F, M_within_c, ix_lit, inB_lit, decide_true, Bool.true_or, Bool.or_true, true_and, and_true, kI_add, kI_sub, kI_mul, tn_add, Int.toNat_natCast, Int.reduceToNat, kI_le, kI_lt, kI_inj, decide_eq_true_eq, Bool.not_eq_true', decide_eq_false_iff_not, not_true_eq_false, not_false_eq_true, Classical.not_not, Bool.false_eq_true, if_true, if_false, z0, bI_k0, bI_k1, isB_b, isB_0, isB_1, kI_long, kd_stI, ln_stI, rv_stI, p1]
    first | exact ⟨rfl, rfl⟩ | exact rfl
/-- the answer of a refused write -/
def wrNo (w : TW) (t : Int) : Int := if 0 ≤ t ∧ t < 4 then (if w.1 t.toNat = -1 then -6 else -7) else -2
def wrOk (w : TW) (t i : Int) : Prop := (0 ≤ t ∧ t < 4) ∧ w.1 t.toNat ≠ -1 ∧ 0 ≤ i ∧ i < w.2.1 t.toNat
theorem X_write_g {T : Nat → Nat} {s : ST} {p : Nat} {y : DY} {v : Int} {hs : List DY} {nx : Nat} {h : AH} (B : BX T s p y v hs nx h) {w : TW} (X : XTs w h) (W : WTs w) {t i : Nat} (ht : t < 4) (q3 : w.1 t ≠ -1) (hi : i < w.2.1 t) (x : Int64) : GJ 3 m_X_write [.ref 1, .int (kI t), .int (kI i), .long x] h (cutF (w.1 t) x) (fun h' => Fr I0 (fun a _ => 74 ≤ a ∧ a ≤ 81) h h' ∧ XTs (upT w t (w.1 t) (w.2.1 t) (fun j => if j = i then (cutF (w.1 t) x).toInt else w.2.2 t j)) h') := by
  have F := B.F
  have Tf := tr_fix F ht
  have Wt := W t ht
  have Xt := X t ht
  have n40 := Wt.2.2.1
  have sz := Xt.sz q3
  refine GJo (s_X_write_0 ?_)
  have p1 : (0 ≤ (t : Int) ∧ (t : Int) < 4) = True := eq_true (by omega)
  simp (disch := omega) only [kd_1 F, rv_1_11 F, kd_73 F, ln_73 F, Tf.1, Tf.2.1, ix_lit, inB_lit, decide_true, Bool.true_or, Bool.or_true, true_and, and_true, kI_add, kI_sub, kI_mul, tn_add, Int.toNat_natCast, Int.reduceToNat, kI_le, kI_lt, kI_inj, decide_eq_true_eq, Bool.not_eq_true', decide_eq_false_iff_not, not_true_eq_false, not_false_eq_true, Classical.not_not, Bool.false_eq_true, if_true, if_false, z0, bI_k0, bI_k1, isB_b, isB_0, isB_1, kI_long, kd_stI, ln_stI, rv_stI, X_isTray_c, p1, Nat.reduceLeDiff, Tr_isMissing_c ht F Wt Xt, q3, sz]
  rw [if_neg (by omega), if_pos (by omega)]
  refine GJ.use (Tr_put_g ht F Wt Xt q3 hi x) (by omega) (fun h1 e1 => ?_)
  exact ⟨rfl, e1.1.mono (fun _ _ w => w) (fun a k w => by omega), upT_x X (fun a k q1 q2 => ⟨e1.1.2.2.2.2.2.1 a k (fun w => w), e1.1.2.2.2.2.2.2 a k q2⟩) e1.2⟩
theorem X_write_no {T : Nat → Nat} {s : ST} {p : Nat} {y : DY} {v : Int} {hs : List DY} {nx : Nat} {h : AH} (B : BX T s p y v hs nx h) {w : TW} (X : XTs w h) (W : WTs w) {t i : Int} (t1 : -2147483648 ≤ t) (t2 : t ≤ 2147483647) (i1 : -2147483648 ≤ i) (i2 : i ≤ 2147483647) (no : ¬ wrOk w t i) (x : Int64) : GJ 3 m_X_write [.ref 1, .int (kI t), .int (kI i), .long x] h (kJ (wrNo w t)) (fun h' => h' = h) := by
  have F := B.F
  refine GJo (s_X_write_0 ?_)
  unfold wrNo
  by_cases q : 0 ≤ t ∧ t < 4
  · rw [if_pos q]
    have p1 : (0 ≤ t ∧ t < 4) = True := eq_true q
    obtain ⟨t, rfl⟩ := Int.eq_ofNat_of_zero_le q.1
    have ht : t < 4 := by omega
    have Tf := tr_fix F ht
    have Wt := W t ht
    have Xt := X t ht
    have n40 := Wt.2.2.1
    simp only [Int.toNat_natCast]
    by_cases q3 : w.1 t = -1
    · rw [if_pos q3]
      simp (disch := omega) only [kd_1 F, rv_1_11 F, kd_73 F, ln_73 F, Tf.1, Tf.2.1, ix_lit, inB_lit, decide_true, Bool.true_or, Bool.or_true, true_and, and_true, kI_add, kI_sub, kI_mul, tn_add, Int.toNat_natCast, Int.reduceToNat, kI_le, kI_lt, kI_inj, decide_eq_true_eq, Bool.not_eq_true', decide_eq_false_iff_not, not_true_eq_false, not_false_eq_true, Classical.not_not, Bool.false_eq_true, if_true, if_false, z0, bI_k0, bI_k1, isB_b, isB_0, isB_1, kI_long, kd_stI, ln_stI, rv_stI, X_isTray_c, p1, Nat.reduceLeDiff, Tr_isMissing_c ht F Wt Xt, q3]
      first | exact ⟨rfl, rfl⟩ | exact rfl
    · rw [if_neg q3]
      have sz := Xt.sz q3
      by_cases z : i < 0
      · simp (disch := omega) only [kd_1 F, rv_1_11 F, kd_73 F, ln_73 F, Tf.1, Tf.2.1, ix_lit, inB_lit, decide_true, Bool.true_or, Bool.or_true, true_and, and_true, kI_add, kI_sub, kI_mul, tn_add, Int.toNat_natCast, Int.reduceToNat, kI_le, kI_lt, kI_inj, decide_eq_true_eq, Bool.not_eq_true', decide_eq_false_iff_not, not_true_eq_false, not_false_eq_true, Classical.not_not, Bool.false_eq_true, if_true, if_false, z0, bI_k0, bI_k1, isB_b, isB_0, isB_1, kI_long, kd_stI, ln_stI, rv_stI, X_isTray_c, p1, Nat.reduceLeDiff, Tr_isMissing_c ht F Wt Xt, q3, z]
        first | exact ⟨rfl, rfl⟩ | exact rfl
      · have z2 : ¬ i < (w.2.1 t : Int) := fun z2 => no ⟨q, q3, by omega, z2⟩
        simp (disch := omega) only [kd_1 F, rv_1_11 F, kd_73 F, ln_73 F, Tf.1, Tf.2.1, ix_lit, inB_lit, decide_true, Bool.true_or, Bool.or_true, true_and, and_true, kI_add, kI_sub, kI_mul, tn_add, Int.toNat_natCast, Int.reduceToNat, kI_le, kI_lt, kI_inj, decide_eq_true_eq, Bool.not_eq_true', decide_eq_false_iff_not, not_true_eq_false, not_false_eq_true, Classical.not_not, Bool.false_eq_true, if_true, if_false, z0, bI_k0, bI_k1, isB_b, isB_0, isB_1, kI_long, kd_stI, ln_stI, rv_stI, X_isTray_c, p1, Nat.reduceLeDiff, Tr_isMissing_c ht F Wt Xt, q3, z, sz, z2]
        first | exact ⟨rfl, rfl⟩ | exact rfl
  · rw [if_neg q]
    simp (disch := omega) only [ix_lit, inB_lit, decide_true, Bool.true_or, Bool.or_true, true_and, and_true, kI_add, kI_sub, kI_mul, tn_add, Int.toNat_natCast, Int.reduceToNat, kI_le, kI_lt, kI_inj, decide_eq_true_eq, Bool.not_eq_true', decide_eq_false_iff_not, not_true_eq_false, not_false_eq_true, Classical.not_not, Bool.false_eq_true, if_true, if_false, z0, bI_k0, bI_k1, isB_b, isB_0, isB_1, kI_long, kd_stI, ln_stI, rv_stI, X_isTray_c, eq_false q]
    first | exact ⟨rfl, rfl⟩ | exact rfl
theorem M_cut_c {d : Nat} (hd : 1 ≤ d) {h : AH} {so : Int} (s1 : 0 ≤ so) (s2 : so ≤ 3) {x : Int64} {K : Int64 → AH → Prop} : CallJ d m_M_cut [.long x, .int (kI so)] h K ↔ K (cutF so x) h := by
  refine Ret.J (d := 1) (ret_of (s_M_cut_0 ?_)) hd
  unfold cutF
  have e : so = 0 ∨ so = 1 ∨ so = 2 ∨ so = 3 := by omega
  rcases e with rfl | rfl | rfl | rfl
  · simp (disch := omega) only [ix_lit, inB_lit, decide_true, Bool.true_or, Bool.or_true, true_and, and_true, kI_add, kI_sub, kI_mul, tn_add, Int.toNat_natCast, Int.reduceToNat, kI_le, kI_lt, kI_inj, decide_eq_true_eq, Bool.not_eq_true', decide_eq_false_iff_not, not_true_eq_false, not_false_eq_true, Classical.not_not, Bool.false_eq_true, if_true, if_false, z0, bI_k0, bI_k1, isB_b, isB_0, isB_1, kI_long, kd_stI, ln_stI, rv_stI, Int.reduceEq, Bool.true_eq_false]
  · simp (disch := omega) only [ix_lit, inB_lit, decide_true, Bool.true_or, Bool.or_true, true_and, and_true, kI_add, kI_sub, kI_mul, tn_add, Int.toNat_natCast, Int.reduceToNat, kI_le, kI_lt, kI_inj, decide_eq_true_eq, Bool.not_eq_true', decide_eq_false_iff_not, not_true_eq_false, not_false_eq_true, Classical.not_not, Bool.false_eq_true, if_true, if_false, z0, bI_k0, bI_k1, isB_b, isB_0, isB_1, kI_long, kd_stI, ln_stI, rv_stI, Int.reduceEq, Bool.true_eq_false]
  · simp (disch := omega) only [ix_lit, inB_lit, decide_true, Bool.true_or, Bool.or_true, true_and, and_true, kI_add, kI_sub, kI_mul, tn_add, Int.toNat_natCast, Int.reduceToNat, kI_le, kI_lt, kI_inj, decide_eq_true_eq, Bool.not_eq_true', decide_eq_false_iff_not, not_true_eq_false, not_false_eq_true, Classical.not_not, Bool.false_eq_true, if_true, if_false, z0, bI_k0, bI_k1, isB_b, isB_0, isB_1, kI_long, kd_stI, ln_stI, rv_stI, Int.reduceEq, Bool.true_eq_false]
  · simp (disch := omega) only [ix_lit, inB_lit, decide_true, Bool.true_or, Bool.or_true, true_and, and_true, kI_add, kI_sub, kI_mul, tn_add, Int.toNat_natCast, Int.reduceToNat, kI_le, kI_lt, kI_inj, decide_eq_true_eq, Bool.not_eq_true', decide_eq_false_iff_not, not_true_eq_false, not_false_eq_true, Classical.not_not, Bool.false_eq_true, if_true, if_false, z0, bI_k0, bI_k1, isB_b, isB_0, isB_1, kI_long, kd_stI, ln_stI, rv_stI, Int.reduceEq]
theorem M_write_g {s : ST} {y : DY} {hs : List DY} {h : AH} (B : BM s y hs h) {w : TW} (X : MTs w h) (W : WTs w) {t i : Nat} (ht : t < 4) (q3 : w.1 t ≠ -1) (hi : i < w.2.1 t) (x : Int64) : GJ 4 m_M_write [.ref 88, .int (kI t), .int (kI i), .long x] h (cutF (w.1 t) x) (fun h' => Fr IT (fun a _ => a = 105) h h' ∧ MTs (upT w t (w.1 t) (w.2.1 t) (fun j => if j = i then (cutF (w.1 t) x).toInt else w.2.2 t j)) h') := by
  have F := B.M.fix
  have e0 := f88 h
  have F0 := e0.fix F
  have Wt := W t ht
  have w1 := Wt.1
  have w2 := Wt.2.1
  have n40 := Wt.2.2.1
  have X0 : MTs w (stI h 88 0 (kI 0)) := X.md (e0.mono (fun a k w => w.d) (fun _ _ w => w))
  have so := X0.so W
  have Xt := X0 t ht
  have x4 := (Xt.2 q3).1
  have x3 := Xt.1
  have p1 : (0 ≤ (t : Int) ∧ (t : Int) < 4) = True := eq_true (by omega)
  have p2 : (0 ≤ (i : Int) ∧ (i : Int) ≤ (w.2.1 t : Int) - 1) = True := eq_true (by omega)
  have ei : (40 * (t : Int) + (i : Int)).toNat = 40 * t + i := by omega
  have ei2 : ix (kI (40 * (t : Int) + i)) = 40 * t + i := by rw [ix_lit (by omega) (by omega), ei]
  have eb2 : inB (kI (40 * (t : Int) + i)) 160 = true := inB_lit (by omega) (by omega) (by omega)
  refine GJo (s_M_write_0 ?_)
  simp (disch := omega) only [kd_88 F, kd_88 F0, rv_88_29 F0, kd_104 F0, ln_104 F0, rv_88_28 F0, kd_103 F0, ln_103 F0, rv_88_30 F0, kd_105 F0, ln_105 F0, ix_lit, inB_lit, decide_true, Bool.true_or, Bool.or_true, true_and, and_true, kI_add, kI_sub, kI_mul, tn_add, Int.toNat_natCast, Int.reduceToNat, kI_le, kI_lt, kI_inj, decide_eq_true_eq, Bool.not_eq_true', decide_eq_false_iff_not, not_true_eq_false, not_false_eq_true, Classical.not_not, Bool.false_eq_true, if_true, if_false, z0, bI_k0, bI_k1, isB_b, isB_0, isB_1, kI_long, kd_stI, ln_stI, rv_stI, M_noTray_c (a := (t : Int)) (show 2 ≤ 3 by omega) F0 (by omega) (by omega) so, p1, q3, x4, x3, M_within_c, p2, M_cut_c, ei2, eb2, kd_stJ, ln_stJ, rv_stJ, jv_stJ]
  have f1 : Fr IT (fun a _ => a = 105) h (stJ (stI h 88 0 (kI 0)) 105 (40 * t + i) (cutF (w.1 t) x)) := ((Fr_rfl IT (fun a _ => a = 105) h).stI (Or.inl ⟨rfl, rfl⟩) _).stJ rfl _
  refine ⟨rfl, f1, upT_m ht W X (fun u q hu => ⟨?_, ?_, fun j hj => ?_⟩) ⟨?_, fun _ => ⟨?_, fun j hj => ?_⟩⟩⟩
  · rw [iv_stJ, iv_stI, if_neg (by omega)]
  · rw [iv_stJ, iv_stI, if_neg (by omega)]
  · rw [jv_stJ, if_neg (by omega)]; rfl
  · rw [iv_stJ]; exact x3
  · rw [iv_stJ]; exact x4
  · rw [jv_stJ]
    by_cases q : j = i
    · rw [if_pos (by omega)]
      show _ = kJ (if j = i then _ else _)
      rw [if_pos q]
      exact kJ_of _
    · rw [if_neg (by omega)]
      show _ = kJ (if j = i then _ else _)
      rw [if_neg q]
      exact (Xt.2 q3).2 j hj
theorem M_write_no {s : ST} {y : DY} {hs : List DY} {h : AH} (B : BM s y hs h) {w : TW} (X : MTs w h) (W : WTs w) {t i : Int} (t1 : -2147483648 ≤ t) (t2 : t ≤ 2147483647) (i1 : -2147483648 ≤ i) (i2 : i ≤ 2147483647) (no : ¬ wrOk w t i) (x : Int64) : GJ 4 m_M_write [.ref 88, .int (kI t), .int (kI i), .long x] h (kJ (wrNo w t)) (fun h' => h' = stI h 88 0 (kI 0)) := by
  have F := B.M.fix
  have e0 := f88 h
  have F0 := e0.fix F
  have X0 : MTs w (stI h 88 0 (kI 0)) := X.md (e0.mono (fun a k w => w.d) (fun _ _ w => w))
  have so := X0.so W
  refine GJo (s_M_write_0 ?_)
  unfold wrNo
  by_cases q : 0 ≤ t ∧ t < 4
  · rw [if_pos q]
    have p1 : (0 ≤ t ∧ t < 4) = True := eq_true q
    obtain ⟨t, rfl⟩ := Int.eq_ofNat_of_zero_le q.1
    have ht : t < 4 := by omega
    have Wt := W t ht
    have n40 := Wt.2.2.1
    simp only [Int.toNat_natCast]
    by_cases q3 : w.1 t = -1
    · rw [if_pos q3]
      simp (disch := omega) only [kd_88 F, kd_88 F0, ix_lit, inB_lit, decide_true, Bool.true_or, Bool.or_true, true_and, and_true, kI_add, kI_sub, kI_mul, tn_add, Int.toNat_natCast, Int.reduceToNat, kI_le, kI_lt, kI_inj, decide_eq_true_eq, Bool.not_eq_true', decide_eq_false_iff_not, not_true_eq_false, not_false_eq_true, Classical.not_not, Bool.false_eq_true, if_true, if_false, z0, bI_k0, bI_k1, isB_b, isB_0, isB_1, kI_long, kd_stI, ln_stI, rv_stI, M_noTray_c (a := (t : Int)) (show 2 ≤ 3 by omega) F0 (by omega) (by omega) so, p1, q3, Int.reduceEq]
      first | exact ⟨rfl, rfl⟩ | exact rfl
    · rw [if_neg q3]
      have x4 := ((X0 t ht).2 q3).1
      have p2 : (0 ≤ i ∧ i ≤ (w.2.1 t : Int) - 1) = False := eq_false (fun z => no ⟨q, q3, z.1, by show i < (w.2.1 t : Int); omega⟩)
      simp (disch := omega) only [kd_88 F, kd_88 F0, rv_88_29 F0, kd_104 F0, ln_104 F0, ix_lit, inB_lit, decide_true, Bool.true_or, Bool.or_true, true_and, and_true, kI_add, kI_sub, kI_mul, tn_add, Int.toNat_natCast, Int.reduceToNat, kI_le, kI_lt, kI_inj, decide_eq_true_eq, Bool.not_eq_true', decide_eq_false_iff_not, not_true_eq_false, not_false_eq_true, Classical.not_not, Bool.false_eq_true, if_true, if_false, z0, bI_k0, bI_k1, isB_b, isB_0, isB_1, kI_long, kd_stI, ln_stI, rv_stI, M_noTray_c (a := (t : Int)) (show 2 ≤ 3 by omega) F0 (by omega) (by omega) so, p1, q3, x4, M_within_c, p2]
      first | exact ⟨rfl, rfl⟩ | exact rfl
  · rw [if_neg q]
    simp (disch := omega) only [kd_88 F, kd_88 F0, ix_lit, inB_lit, decide_true, Bool.true_or, Bool.or_true, true_and, and_true, kI_add, kI_sub, kI_mul, tn_add, Int.toNat_natCast, Int.reduceToNat, kI_le, kI_lt, kI_inj, decide_eq_true_eq, Bool.not_eq_true', decide_eq_false_iff_not, not_true_eq_false, not_false_eq_true, Classical.not_not, Bool.false_eq_true, if_true, if_false, z0, bI_k0, bI_k1, isB_b, isB_0, isB_1, kI_long, kd_stI, ln_stI, rv_stI, M_noTray_c (show 2 ≤ 3 by omega) F0 t1 t2 so, eq_false q, Int.reduceEq]
    first | exact ⟨rfl, rfl⟩ | exact rfl
