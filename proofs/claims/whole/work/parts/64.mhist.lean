/-! the reference's history, and its deeds that can be undone -/
def MH (hs : List DY) (h : AH) : Prop := (hs.length ≤ 10) ∧ (ivA h 89 29 = kI hs.length) ∧ (∀ i, i < hs.length → ∀ k, k < 7 → ivA h 89 (30 + 7 * (hs.length - 1 - i) + k) = dv (hs.getD i y0) k)
theorem MH.len {hs : List DY} {h : AH} (C : MH hs h) : hs.length ≤ 10 := C.1
theorem MH.i29 {hs : List DY} {h : AH} (C : MH hs h) : ivA h 89 29 = kI hs.length := C.2.1
theorem MH.e {hs : List DY} {h : AH} (C : MH hs h) : ∀ i, i < hs.length → ∀ k, k < 7 → ivA h 89 (30 + 7 * (hs.length - 1 - i) + k) = dv (hs.getD i y0) k := C.2.2
theorem MH.fr {I J : Nat → Nat → Prop} {hs : List DY} {h h' : AH} (C : MH hs h) (e : Fr I J h h') (hi : ∀ k, 29 ≤ k → k ≤ 99 → ¬ I 89 k) : MH hs h' := by
  have l := C.len
  refine ⟨C.len, ?_, fun i h1 k h2 => ?_⟩
  · rw [e.2.2.2.2.2.1 _ _ (hi 29 (by omega) (by omega))]; exact C.i29
  · rw [e.2.2.2.2.2.1 _ _ (hi _ (by omega) (by omega))]; exact C.e i h1 k h2
theorem MC.dv {s : ST} {y : DY} {h : AH} (C : MC s y h) {k : Nat} (hk : k < 7) : ivA h 89 (22 + k) = dv y k := by
  have := MDy_dv.mp C.2.2.2.2 k hk
  rw [Nat.zero_add] at this
  exact this
theorem M_keeps_g {s : ST} {y : DY} {h : AH} (C : MC s y h) : GV 1 m_M_keeps [.ref 88] h (fun h' => Fr (fun a _ => a = 95) JM h h' ∧ ∀ k, k < 7 → ivA h' 95 k = dv y k) := by
  have F := C.fix
  refine GVo (s_M_keeps_0 ?_)
  suffices H : ∀ k, k ≤ 7 → ∀ h1, Fr (fun a _ => a = 95) JM h h1 → (∀ j, j < k → ivA h1 95 j = dv y j) → Safe 0 m_M_keeps (2, [.ref 88, .int (kI k)], [], h1) (fun v h' => Eqv v none ∧ Fr (fun a _ => a = 95) JM h h' ∧ ∀ k, k < 7 → ivA h' 95 k = dv y k) by
    exact H 0 (by omega) h (Fr_rfl _ _ _) (fun j hj => by omega)
  refine down_ind 7 ?_ ?_
  · intro h1 e1 H
    refine s_M_keeps_2 ?_
    simp (disch := omega) only [ix_lit, inB_lit, decide_true, Bool.true_or, Bool.or_true, true_and, and_true, kI_add, kI_sub, kI_mul, tn_add, Int.toNat_natCast, Int.reduceToNat, kI_le, kI_lt, kI_inj, decide_eq_true_eq, Bool.not_eq_true', decide_eq_false_iff_not, not_true_eq_false, not_false_eq_true, Classical.not_not, Bool.false_eq_true, if_true, if_false, z0, bI_k0, bI_k1, isB_b, isB_0, isB_1, kI_long, kd_stI, ln_stI, rv_stI, Int.cast_ofNat_Int, Int.le_refl]
    exact ⟨rfl, e1, H⟩
  · intro k hk ih h1 e1 H
    have F1 := e1.fix F
    have e : ivA h1 89 (22 + k) = dv y k := by rw [e1.2.2.2.2.2.1 _ _ (by omega)]; exact C.dv hk
    refine s_M_keeps_2 ?_
    simp (disch := omega) only [kd_88 F1, rv_88_1 F1, rv_88_18 F1, kd_89 F1, ln_89 F1, kd_95 F1, ln_95 F1, ix_lit, inB_lit, decide_true, Bool.true_or, Bool.or_true, true_and, and_true, kI_add, kI_sub, kI_mul, tn_add, Int.toNat_natCast, Int.reduceToNat, kI_le, kI_lt, kI_inj, decide_eq_true_eq, Bool.not_eq_true', decide_eq_false_iff_not, not_true_eq_false, not_false_eq_true, Classical.not_not, Bool.false_eq_true, if_true, if_false, z0, bI_k0, bI_k1, isB_b, isB_0, isB_1, kI_long, kd_stI, ln_stI, rv_stI, e]
    rw [if_neg (by omega)]
    refine ih (stI h1 95 k (dv y k)) (e1.stI rfl _) (fun j hj => ?_)
    rw [iv_stI]
    by_cases q : j = k
    · rw [if_pos ⟨rfl, q⟩, q]
    · rw [if_neg (fun w => q w.2)]
      exact H j (by omega)
theorem M_isAgain_g {s : ST} {y y' : DY} {h : AH} (C : MC s y' h) (wy : WFY s y) (W : ∀ k, k < 7 → ivA h 95 k = dv y k) : GV 1 m_M_isAgain [.ref 88] h (PostM s y h) := by
  have F := C.fix
  refine GVo (s_M_isAgain_0 ?_)
  suffices H : ∀ k, k ≤ 7 → ∀ h1, Fr ID JM h h1 → (∀ j, j < k → ivA h1 89 (22 + j) = dv y j) → Safe 0 m_M_isAgain (2, [.ref 88, .int (kI k)], [], h1) (fun v h' => Eqv v none ∧ PostM s y h h') by
    exact H 0 (by omega) h (Fr_rfl _ _ _) (fun j hj => by omega)
  refine down_ind 7 ?_ ?_
  · intro h1 e1 H
    refine s_M_isAgain_2 ?_
    simp (disch := omega) only [ix_lit, inB_lit, decide_true, Bool.true_or, Bool.or_true, true_and, and_true, kI_add, kI_sub, kI_mul, tn_add, Int.toNat_natCast, Int.reduceToNat, kI_le, kI_lt, kI_inj, decide_eq_true_eq, Bool.not_eq_true', decide_eq_false_iff_not, not_true_eq_false, not_false_eq_true, Classical.not_not, Bool.false_eq_true, if_true, if_false, z0, bI_k0, bI_k1, isB_b, isB_0, isB_1, kI_long, kd_stI, ln_stI, rv_stI, Int.cast_ofNat_Int, Int.le_refl]
    refine ⟨rfl, e1, C.to e1 (fun k hk w => ?_) wy (MDy_dv.mpr (fun k hk => by rw [Nat.zero_add]; exact H k hk))⟩
    unfold ID IM at w
    omega
  · intro k hk ih h1 e1 H
    have F1 := e1.fix F
    have e : ivA h1 95 k = dv y k := by rw [e1.2.2.2.2.2.1 _ _ (by unfold ID IM; omega)]; exact W k hk
    refine s_M_isAgain_2 ?_
    simp (disch := omega) only [kd_88 F1, rv_88_1 F1, rv_88_18 F1, kd_89 F1, ln_89 F1, kd_95 F1, ln_95 F1, ix_lit, inB_lit, decide_true, Bool.true_or, Bool.or_true, true_and, and_true, kI_add, kI_sub, kI_mul, tn_add, Int.toNat_natCast, Int.reduceToNat, kI_le, kI_lt, kI_inj, decide_eq_true_eq, Bool.not_eq_true', decide_eq_false_iff_not, not_true_eq_false, not_false_eq_true, Classical.not_not, Bool.false_eq_true, if_true, if_false, z0, bI_k0, bI_k1, isB_b, isB_0, isB_1, kI_long, kd_stI, ln_stI, rv_stI, e]
    rw [if_neg (by omega)]
    refine ih (stI h1 89 (22 + k) (dv y k)) (e1.stI (Or.inr (by omega)) _) (fun j hj => ?_)
    rw [iv_stI]
    by_cases q : j = k
    · rw [if_pos (by omega), q]
    · rw [if_neg (by omega)]
      exact H j (by omega)
theorem M_notes_57 {y : DY} {n : Nat} {h : AH} (F : Fix h) (hn : n < 10) (i29 : ivA h 89 29 = kI n) (W : ∀ k, k < 7 → ivA h 95 k = dv y k) : Safe 0 m_M_notes (57, [.ref 88, .int (kI 0)], [], h) (fun v h' => Eqv v none ∧ Fr (fun a k => a = 89 ∧ (k = 29 ∨ (30 + 7 * n ≤ k ∧ k < 37 + 7 * n))) JM h h' ∧ ivA h' 89 29 = kI (n + 1) ∧ ∀ k, k < 7 → ivA h' 89 (30 + 7 * n + k) = dv y k) := by
  suffices H : ∀ k, k ≤ 7 → ∀ h1, Fr (fun a k => a = 89 ∧ (30 + 7 * n ≤ k ∧ k < 37 + 7 * n)) JM h h1 → (∀ j, j < k → ivA h1 89 (30 + 7 * n + j) = dv y j) → Safe 0 m_M_notes (57, [.ref 88, .int (kI k)], [], h1) (fun v h' => Eqv v none ∧ Fr (fun a k => a = 89 ∧ (k = 29 ∨ (30 + 7 * n ≤ k ∧ k < 37 + 7 * n))) JM h h' ∧ ivA h' 89 29 = kI (n + 1) ∧ ∀ k, k < 7 → ivA h' 89 (30 + 7 * n + k) = dv y k) by
    exact H 0 (by omega) h (Fr_rfl _ _ _) (fun j hj => by omega)
  refine down_ind 7 ?_ ?_
  · intro h1 e1 H
    have F1 := e1.fix F
    have e29 : ivA h1 89 29 = kI n := by rw [e1.2.2.2.2.2.1 _ _ (by omega)]; exact i29
    refine s_M_notes_57 ?_
    simp (disch := omega) only [kd_88 F1, rv_88_1 F1, kd_89 F1, ln_89 F1, ix_lit, inB_lit, decide_true, Bool.true_or, Bool.or_true, true_and, and_true, kI_add, kI_sub, kI_mul, tn_add, Int.toNat_natCast, Int.reduceToNat, kI_le, kI_lt, kI_inj, decide_eq_true_eq, Bool.not_eq_true', decide_eq_false_iff_not, not_true_eq_false, not_false_eq_true, Classical.not_not, Bool.false_eq_true, if_true, if_false, z0, bI_k0, bI_k1, isB_b, isB_0, isB_1, kI_long, kd_stI, ln_stI, rv_stI, Int.cast_ofNat_Int, Int.le_refl, e29]
    refine ⟨rfl, (e1.mono (fun a k w => ⟨w.1, Or.inr w.2⟩) (fun _ _ w => w)).stI ⟨rfl, Or.inl rfl⟩ _, ?_, fun k hk => ?_⟩
    · rw [iv_stI, if_pos ⟨rfl, rfl⟩]
    · rw [iv_stI, if_neg (by omega)]
      exact H k hk
  · intro k hk ih h1 e1 H
    have F1 := e1.fix F
    have e29 : ivA h1 89 29 = kI n := by rw [e1.2.2.2.2.2.1 _ _ (by omega)]; exact i29
    have e : ivA h1 95 k = dv y k := by rw [e1.2.2.2.2.2.1 _ _ (by omega)]; exact W k hk
    have ei : (30 + 7 * (n : Int) + (k : Int)).toNat = 30 + 7 * n + k := by omega
    refine s_M_notes_57 ?_
    simp (disch := omega) only [kd_88 F1, rv_88_1 F1, rv_88_18 F1, kd_89 F1, ln_89 F1, kd_95 F1, ln_95 F1, ix_lit, inB_lit, decide_true, Bool.true_or, true_and, kI_add, kI_mul, kI_le, decide_eq_true_eq, Int.toNat_natCast, Int.reduceToNat, e, e29, ei]
    rw [if_neg (by omega)]
    refine ih (stI h1 89 (30 + 7 * n + k) (dv y k)) (e1.stI (by omega) _) (fun j hj => ?_)
    rw [iv_stI]
    by_cases q : j = k
    · rw [if_pos (by omega), q]
    · rw [if_neg (by omega)]
      exact H j (by omega)
theorem M_notes_14 {h : AH} (F : Fix h) {Q : Option Value → AH → Prop} (i29 : ivA h 89 29 = kI 10) (H : ∀ h', Fr (fun a k => a = 89 ∧ 29 ≤ k ∧ k ≤ 99) JM h h' → ivA h' 89 29 = kI 9 → (∀ j, j < 63 → ivA h' 89 (30 + j) = ivA h 89 (37 + j)) → Safe 0 m_M_notes (57, [.ref 88, .int (kI 0)], [], h') Q) : Safe 0 m_M_notes (14, [.ref 88, .int (kI 0)], [], h) Q := by
  suffices G : ∀ k, k ≤ 63 → ∀ h1, Fr (fun a k => a = 89 ∧ 30 ≤ k ∧ k ≤ 99) JM h h1 → (∀ j, j < k → ivA h1 89 (30 + j) = ivA h 89 (37 + j)) → (∀ j, k ≤ j → ivA h1 89 (30 + j) = ivA h 89 (30 + j)) → Safe 0 m_M_notes (14, [.ref 88, .int (kI k)], [], h1) Q by
    exact G 0 (by omega) h (Fr_rfl _ _ _) (fun j hj => by omega) (fun j _ => rfl)
  refine down_ind 63 ?_ ?_
  · intro h1 e1 G1 _
    have F1 := e1.fix F
    have e29 : ivA h1 89 29 = kI 10 := by rw [e1.2.2.2.2.2.1 _ _ (by omega)]; exact i29
    refine s_M_notes_14 ?_
    simp (disch := omega) only [kd_88 F1, rv_88_1 F1, kd_89 F1, ln_89 F1, ix_lit, inB_lit, decide_true, Bool.true_or, Bool.or_true, true_and, and_true, kI_add, kI_sub, kI_mul, tn_add, Int.toNat_natCast, Int.reduceToNat, kI_le, kI_lt, kI_inj, decide_eq_true_eq, Bool.not_eq_true', decide_eq_false_iff_not, not_true_eq_false, not_false_eq_true, Classical.not_not, Bool.false_eq_true, if_true, if_false, z0, bI_k0, bI_k1, isB_b, isB_0, isB_1, kI_long, kd_stI, ln_stI, rv_stI, Int.cast_ofNat_Int, Int.le_refl, e29, Int.reduceSub]
    refine H _ ((e1.mono (fun a k w => ⟨w.1, by omega⟩) (fun _ _ w => w)).stI (by omega) _) ?_ (fun j hj => ?_)
    · rw [iv_stI, if_pos ⟨rfl, rfl⟩]
    · rw [iv_stI, if_neg (by omega)]
      exact G1 j hj
  · intro k hk ih h1 e1 G1 G2
    have F1 := e1.fix F
    have e : ivA h1 89 (37 + k) = ivA h 89 (37 + k) := by
      have := G2 (k + 7) (by omega)
      rw [show 30 + (k + 7) = 37 + k by omega] at this
      exact this
    refine s_M_notes_14 ?_
    simp (disch := omega) only [kd_88 F1, rv_88_1 F1, kd_89 F1, ln_89 F1, ix_lit, inB_lit, decide_true, Bool.true_or, Bool.or_true, true_and, and_true, kI_add, kI_sub, kI_mul, tn_add, Int.toNat_natCast, Int.reduceToNat, kI_le, kI_lt, kI_inj, decide_eq_true_eq, Bool.not_eq_true', decide_eq_false_iff_not, not_true_eq_false, not_false_eq_true, Classical.not_not, Bool.false_eq_true, if_true, if_false, z0, bI_k0, bI_k1, isB_b, isB_0, isB_1, kI_long, kd_stI, ln_stI, rv_stI, e]
    rw [if_neg (by omega)]
    refine ih (stI h1 89 (30 + k) (ivA h 89 (37 + k))) (e1.stI (by omega) _) (fun j hj => ?_) (fun j hj => ?_)
    · rw [iv_stI]
      by_cases q : j = k
      · rw [if_pos (by omega), q]
      · rw [if_neg (by omega)]
        exact G1 j (by omega)
    · rw [iv_stI, if_neg (by omega)]
      exact G2 j (by omega)
theorem M_notes_g {y : DY} {hs : List DY} {h : AH} (F : Fix h) (M : MH hs h) (W : ∀ k, k < 7 → ivA h 95 k = dv y k) : GV 1 m_M_notes [.ref 88] h (fun h' => Fr (fun a k => a = 89 ∧ 29 ≤ k ∧ k ≤ 99) JM h h' ∧ MH ((y :: hs).take 10) h') := by
  have l10 := M.len
  have lt : ((y :: hs).take 10).length = min 10 (hs.length + 1) := by rw [List.length_take]; rfl
  refine GVo (s_M_notes_0 ?_)
  by_cases q : hs.length = 10
  · have i29 := M.i29
    rw [q] at i29
    have key : Safe 0 m_M_notes (14, [.ref 88, .int (kI 0)], [], h) (fun v h' => Eqv v none ∧ Fr (fun a k => a = 89 ∧ 29 ≤ k ∧ k ≤ 99) JM h h' ∧ MH ((y :: hs).take 10) h') := by
      refine M_notes_14 F i29 (fun h1 e1 j29 j30 => ?_)
      have F1 := e1.fix F
      have := M_notes_57 (n := 9) F1 (by omega) j29 (fun k hk => by rw [e1.2.2.2.2.2.1 _ _ (by omega)]; exact W k hk)
      obtain ⟨N, n, v, h2, hb, hv, f2, k29, k30⟩ := this
      refine ⟨N, n, v, h2, hb, hv, e1.trans (f2.mono (fun a k w => ⟨w.1, by omega⟩) (fun _ _ w => w)), by rw [lt]; omega, ?_, fun i hi k hk => ?_⟩
      · rw [k29, lt, q]; rfl
      · rw [lt, q] at hi
        rw [lt, q, getD_take (by omega)]
        by_cases z : i = 0
        · subst z
          exact k30 k hk
        · obtain ⟨j, rfl⟩ : ∃ j, i = j + 1 := ⟨i - 1, by omega⟩
          rw [f2.2.2.2.2.2.1 _ _ (by omega)]
          have a1 := j30 (7 * (9 - (j + 1)) + k) (by omega)
          have a2 := M.e j (by omega) k hk
          rw [show 30 + 7 * (min 10 (10 + 1) - 1 - (j + 1)) + k = 30 + (7 * (9 - (j + 1)) + k) by omega, a1]
          rw [show 37 + (7 * (9 - (j + 1)) + k) = 30 + 7 * (hs.length - 1 - j) + k by omega, a2]
          rfl
    simp (disch := omega) only [kd_88 F, rv_88_1 F, kd_89 F, ln_89 F, ix_lit, inB_lit, decide_true, Bool.true_or, Bool.or_true, true_and, and_true, kI_add, kI_sub, kI_mul, tn_add, Int.toNat_natCast, Int.reduceToNat, kI_le, kI_lt, kI_inj, decide_eq_true_eq, Bool.not_eq_true', decide_eq_false_iff_not, not_true_eq_false, not_false_eq_true, Classical.not_not, Bool.false_eq_true, if_true, if_false, z0, bI_k0, bI_k1, isB_b, isB_0, isB_1, kI_long, kd_stI, ln_stI, rv_stI, i29, Int.cast_ofNat_Int]
    exact key
  · have i29 := M.i29
    have q' : ¬ (hs.length : Int) = 10 := by omega
    simp (disch := omega) only [kd_88 F, rv_88_1 F, kd_89 F, ln_89 F, ix_lit, inB_lit, decide_true, Bool.true_or, Bool.or_true, true_and, and_true, kI_add, kI_sub, kI_mul, tn_add, Int.toNat_natCast, Int.reduceToNat, kI_le, kI_lt, kI_inj, decide_eq_true_eq, Bool.not_eq_true', decide_eq_false_iff_not, not_true_eq_false, not_false_eq_true, Classical.not_not, Bool.false_eq_true, if_true, if_false, z0, bI_k0, bI_k1, isB_b, isB_0, isB_1, kI_long, kd_stI, ln_stI, rv_stI, i29, q']
    have := M_notes_57 (n := hs.length) F (by omega) i29 W
    obtain ⟨N, n, v, h2, hb, hv, f2, k29, k30⟩ := this
    refine ⟨N, n, v, h2, hb, hv, f2.mono (fun a k w => ⟨w.1, by omega⟩) (fun _ _ w => w), by rw [lt]; omega, ?_, fun i hi k hk => ?_⟩
    · rw [k29, lt]; congr 1; omega
    · rw [lt] at hi
      rw [lt, getD_take (by omega)]
      by_cases z : i = 0
      · subst z
        rw [show 30 + 7 * (min 10 (hs.length + 1) - 1 - 0) + k = 30 + 7 * hs.length + k by omega]
        exact k30 k hk
      · obtain ⟨j, rfl⟩ : ∃ j, i = j + 1 := ⟨i - 1, by omega⟩
        rw [f2.2.2.2.2.2.1 _ _ (by omega)]
        have a2 := M.e j (by omega) k hk
        rw [show 30 + 7 * (min 10 (hs.length + 1) - 1 - (j + 1)) + k = 30 + 7 * (hs.length - 1 - j) + k by omega, a2]
        rfl
