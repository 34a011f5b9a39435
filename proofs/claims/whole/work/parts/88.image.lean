/-! image and restore -/
theorem BX.fn {T : Nat → Nat} {A : Nat → Prop} {s : ST} {p : Nat} {y : DY} {v : Int} {hs : List DY} {nx : Nat} {h h' : AH} (B : BX T s p y v hs nx h) (e : FN A h h') (F' : Fix h') (n0 : ∀ a, A a → T a ≠ 0) (n1 : ∀ a, A a → a ≠ 1 ∧ a ≠ 8 ∧ a ≠ 9 ∧ (a < 14 ∨ 35 < a)) : BX T s p y v hs nx h' := by
  refine ⟨F', B.t, ?_, B.S.fn e n0, B.P.fn B.F e (by omega) (fun w => (n1 8 w).2.1 rfl) (fun w => (n1 9 w).2.2.1 rfl), B.H.fn B.F e (fun a w => (n1 a w).2.2.2), B.wy, B.wh⟩
  rw [e.rv 1 (oldF B.F (by omega)) (fun w => (n1 1 w).1 rfl)]
  exact B.r
theorem rv_83 {h : AH} (F : Fix h) {i : Nat} (hi : i < 2) : rvA h 83 i = 84 + 2 * i := by
  have e : i = 0 ∨ i = 1 := by omega
  rcases e with rfl | rfl
  · exact rv_83_0 F
  · exact rv_83_1 F
theorem PGi {i : Nat} (hi : i < 2) : PG (84 + 2 * i) := by unfold PG; omega
def AIm (i a : Nat) : Prop := a = 82 ∨ a = 84 + 2 * i ∨ a = 85 + 2 * i
theorem X_image_g {T : Nat → Nat} {s : ST} {p : Nat} {y : DY} {v : Int} {hs : List DY} {nx : Nat} {h : AH} (B : BX T s p y v hs nx h) {i : Nat} (hi : i < 2) : GI 2 m_X_image [.ref 1, .int (kI i)] h (kI 0) (fun h' => FN (AIm i) h h' ∧ szA h' = szA h ∧ usA h' = usA h ∧ BX T s p y v hs nx h' ∧ rvA h' 82 i = p ∧ (∀ j, j ≠ i → rvA h' 82 j = rvA h 82 j) ∧ XQ y (84 + 2 * i) h') := by
  have F := B.F
  have F1 : Fix (stR h 82 i p) := fix_stR F (rvT_82 i)
  have n1 : FN (AIm i) h (stR h 82 i p) := FN_stR (Or.inl rfl)
  have tt : ∀ a, AIm i a → T a ≠ 0 := fun a w => by
    have := B.t.two (a := a) (by unfold AIm at w; omega) (by unfold AIm at w; omega)
    omega
  have nn : ∀ a, AIm i a → a ≠ 1 ∧ a ≠ 8 ∧ a ≠ 9 ∧ (a < 14 ∨ 35 < a) := fun a w => by unfold AIm at w; omega
  have B1 := B.fn n1 F1 tt nn
  have z1 : ¬ (i : Int) < 0 := by omega
  have z2 : (i : Int) < 2 := by omega
  have ix' : ix (kI (i : Int)) = i := ix_kI (by omega)
  have ib' : inB (kI (i : Int)) 2 = true := inB_kI (by omega) (by omega)
  have ak : (decide (akC 32 = 8)) = true := rfl
  refine GIo (s_X_image_0 ?_)
  simp (disch := omega) only [ix_lit, inB_lit, decide_true, Bool.true_or, Bool.or_true, true_and, and_true, kI_add, kI_sub, kI_mul, tn_add, Int.toNat_natCast, Int.reduceToNat, kI_le, kI_lt, kI_inj, decide_eq_true_eq, Bool.not_eq_true', decide_eq_false_iff_not, not_true_eq_false, not_false_eq_true, Classical.not_not, Bool.false_eq_true, if_true, if_false, z0, bI_k0, bI_k1, isB_b, isB_0, isB_1, kI_long, kd_stI, ln_stI, rv_stI, z1, z2, kd_1 F, rv_1_12 F, kd_82 F, ln_82 F, B.r, B.S.k, ix', ib', ak, kd_1 F1, rv_1_13 F1, kd_83 F1, ln_83 F1, rv_83 F1, pg_k F1 (PGi hi), rv_1_3 F1, Nat.reduceLT, Nat.reduceLeDiff]
  refine GV.use (Pg_copy_g F1 (PGi hi) PG8 (by omega) B1.P (kI_of _)) (by omega) (fun h2 e2 => ?_)
  have n2 : FN (AIm i) (stR h 82 i p) h2 := e2.1.fn (fun a k w => Or.inr (by omega)) (fun _ _ w => w.elim)
  have F2 := e2.1.fix F1
  refine ⟨rfl, n1.trans n2, ?_, ?_, B1.fn n2 F2 tt nn, ?_, fun j hj => ?_, e2.2.q⟩
  · rw [e2.1.2.2.2.1]; rfl
  · rw [e2.1.2.2.2.2.1]; rfl
  · rw [e2.1.2.2.1, rv_stR, if_pos ⟨rfl, rfl⟩]
  · rw [e2.1.2.2.1, rv_stR, if_neg (fun w => hj w.2)]
theorem X_image_no {h : AH} {i : Int} (i1 : -2147483648 ≤ i) (i2 : i ≤ 2147483647) (n : i < 0 ∨ 1 < i) : GI 1 m_X_image [.ref 1, .int (kI i)] h (kI (-2)) (fun h' => h' = h) := by
  refine GIo (s_X_image_0 ?_)
  by_cases z1 : i < 0
  · simp (disch := omega) only [ix_lit, inB_lit, decide_true, Bool.true_or, Bool.or_true, true_and, and_true, kI_add, kI_sub, kI_mul, tn_add, Int.toNat_natCast, Int.reduceToNat, kI_le, kI_lt, kI_inj, decide_eq_true_eq, Bool.not_eq_true', decide_eq_false_iff_not, not_true_eq_false, not_false_eq_true, Classical.not_not, Bool.false_eq_true, if_true, if_false, z0, bI_k0, bI_k1, isB_b, isB_0, isB_1, kI_long, kd_stI, ln_stI, rv_stI, z1]
    first | exact ⟨rfl, rfl⟩ | exact rfl
  · have z2 : ¬ i < 2 := by omega
    simp (disch := omega) only [ix_lit, inB_lit, decide_true, Bool.true_or, Bool.or_true, true_and, and_true, kI_add, kI_sub, kI_mul, tn_add, Int.toNat_natCast, Int.reduceToNat, kI_le, kI_lt, kI_inj, decide_eq_true_eq, Bool.not_eq_true', decide_eq_false_iff_not, not_true_eq_false, not_false_eq_true, Classical.not_not, Bool.false_eq_true, if_true, if_false, z0, bI_k0, bI_k1, isB_b, isB_0, isB_1, kI_long, kd_stI, ln_stI, rv_stI, z1, z2]
    first | exact ⟨rfl, rfl⟩ | exact rfl
theorem X_restore_no {h : AH} {i : Int} (i1 : -2147483648 ≤ i) (i2 : i ≤ 2147483647) (n : i < 0 ∨ 1 < i) : GI 1 m_X_restore [.ref 1, .int (kI i)] h (kI (-2)) (fun h' => h' = h) := by
  refine GIo (s_X_restore_0 ?_)
  by_cases z1 : i < 0
  · simp (disch := omega) only [ix_lit, inB_lit, decide_true, Bool.true_or, Bool.or_true, true_and, and_true, kI_add, kI_sub, kI_mul, tn_add, Int.toNat_natCast, Int.reduceToNat, kI_le, kI_lt, kI_inj, decide_eq_true_eq, Bool.not_eq_true', decide_eq_false_iff_not, not_true_eq_false, not_false_eq_true, Classical.not_not, Bool.false_eq_true, if_true, if_false, z0, bI_k0, bI_k1, isB_b, isB_0, isB_1, kI_long, kd_stI, ln_stI, rv_stI, z1]
    first | exact ⟨rfl, rfl⟩ | exact rfl
  · have z2 : ¬ i < 2 := by omega
    simp (disch := omega) only [ix_lit, inB_lit, decide_true, Bool.true_or, Bool.or_true, true_and, and_true, kI_add, kI_sub, kI_mul, tn_add, Int.toNat_natCast, Int.reduceToNat, kI_le, kI_lt, kI_inj, decide_eq_true_eq, Bool.not_eq_true', decide_eq_false_iff_not, not_true_eq_false, not_false_eq_true, Classical.not_not, Bool.false_eq_true, if_true, if_false, z0, bI_k0, bI_k1, isB_b, isB_0, isB_1, kI_long, kd_stI, ln_stI, rv_stI, z1, z2]
    first | exact ⟨rfl, rfl⟩ | exact rfl
theorem X_restore_none {h : AH} (F : Fix h) {i : Nat} (hi : i < 2) (r : rvA h 82 i = 0) : GI 1 m_X_restore [.ref 1, .int (kI i)] h (kI (-5)) (fun h' => h' = h) := by
  have z1 : ¬ (i : Int) < 0 := by omega
  have z2 : (i : Int) < 2 := by omega
  have ix' : ix (kI (i : Int)) = i := ix_kI (by omega)
  have ib' : inB (kI (i : Int)) 2 = true := inB_kI (by omega) (by omega)
  refine GIo (s_X_restore_0 ?_)
  simp (disch := omega) only [ix_lit, inB_lit, decide_true, Bool.true_or, Bool.or_true, true_and, and_true, kI_add, kI_sub, kI_mul, tn_add, Int.toNat_natCast, Int.reduceToNat, kI_le, kI_lt, kI_inj, decide_eq_true_eq, Bool.not_eq_true', decide_eq_false_iff_not, not_true_eq_false, not_false_eq_true, Classical.not_not, Bool.false_eq_true, if_true, if_false, z0, bI_k0, bI_k1, isB_b, isB_0, isB_1, kI_long, kd_stI, ln_stI, rv_stI, z1, z2, kd_1 F, rv_1_12 F, kd_82 F, ln_82 F, ix', ib', r, Nat.reduceLeDiff, Bool.not_true, Bool.false_eq_true]
  first | exact ⟨rfl, rfl⟩ | exact rfl
theorem Hi_forget_g {h : AH} (F : Fix h) : GV 1 m_Hi_forget [.ref 14] h (fun h' => h' = stI h 14 2 (kI 0)) := GVo (s_Hi_forget_0 ⟨by rw [kd_14 F]; rfl, rfl, rfl⟩)
def ARe (a : Nat) : Prop := a = 1 ∨ a = 8 ∨ a = 9 ∨ a = 14
theorem X_restore_g {T : Nat → Nat} {s s' : ST} {p q : Nat} {y z : DY} {v : Int} {hs : List DY} {nx : Nat} {h : AH} (B : BX T s p y v hs nx h) {i : Nat} (hi : i < 2) (r : rvA h 82 i = q) (q0 : q ≠ 0) (S : XS T s' q h) (Z : XQ z (84 + 2 * i) h) (wz : WFY s' z) : GI 2 m_X_restore [.ref 1, .int (kI i)] h (kI 0) (fun h' => FN ARe h h' ∧ szA h' = szA h ∧ usA h' = usA h ∧ (∀ k, ivA h' 1 k = ivA h 1 k) ∧ BX T s' q z (v + 1) [] nx h') := by
  have F := B.F
  have F1 : Fix (stR h 1 2 q) := fix_stR F rvT_12
  have n1 : FN ARe h (stR h 1 2 q) := FN_stR (Or.inl rfl)
  have tt : ∀ a, ARe a → T a ≠ 0 := fun a w => by
    have := B.t.two (a := a) (by unfold ARe at w; omega) (by unfold ARe at w; omega)
    omega
  have z1 : ¬ (i : Int) < 0 := by omega
  have z2 : (i : Int) < 2 := by omega
  have ix' : ix (kI (i : Int)) = i := ix_kI (by omega)
  have ib' : inB (kI (i : Int)) 2 = true := inB_kI (by omega) (by omega)
  have Z1 : XP z _ (84 + 2 * i) (stR h 1 2 q) := Z.p
  have P1 : ivA (stR h 1 2 q) 8 3 = kI v := B.P.i3
  refine GIo (s_X_restore_0 ?_)
  simp (disch := omega) only [ix_lit, inB_lit, decide_true, Bool.true_or, Bool.or_true, true_and, and_true, kI_add, kI_sub, kI_mul, tn_add, Int.toNat_natCast, Int.reduceToNat, kI_le, kI_lt, kI_inj, decide_eq_true_eq, Bool.not_eq_true', decide_eq_false_iff_not, not_true_eq_false, not_false_eq_true, Classical.not_not, Bool.false_eq_true, if_true, if_false, z0, bI_k0, bI_k1, isB_b, isB_0, isB_1, kI_long, kd_stI, ln_stI, rv_stI, z1, z2, kd_1 F, rv_1_12 F, kd_82 F, ln_82 F, ix', ib', r, q0, kd_1 F1, rv_1_13 F1, kd_83 F1, ln_83 F1, rv_83 F1, rv_1_3 F1, kd_8 F1, Nat.reduceLeDiff, Bool.not_false]
  refine GV.use (Pg_copy_g F1 PG8 (PGi hi) (by omega) Z1 P1) (by omega) (fun h2 e2 => ?_)
  have F2 := e2.1.fix F1
  have n2 : FN ARe (stR h 1 2 q) h2 := e2.1.fn (fun a k w => by unfold ARe; omega) (fun _ _ w => w.elim)
  simp (disch := omega) only [kd_1 F2, rv_1_6 F2, kd_14 F2, decide_true, true_and]
  refine GV.use (Hi_forget_g F2) (by omega) (fun h4 e4 => ?_)
  rw [e4]
  have f3 : Fr (fun a k => a = 14 ∧ k = 2) I0 h2 (stI h2 14 2 (kI 0)) := (Fr_rfl _ _ _).stI ⟨rfl, rfl⟩ _
  have F3 := f3.fix F2
  have n3 : FN ARe h2 (stI h2 14 2 (kI 0)) := f3.fn (fun a k w => by unfold ARe; omega) (fun _ _ w => w.elim)
  have n03 := n1.trans (n2.trans n3)
  refine ⟨rfl, n03, ?_, ?_, fun k => ?_, ?_⟩
  · show szA h2 = _
    rw [e2.1.2.2.2.1]; rfl
  · show usA h2 = _
    rw [e2.1.2.2.2.2.1]; rfl
  · rw [iv_stI, if_neg (by omega), e2.1.2.2.2.2.2.1 _ _ (by omega)]; rfl
  · refine ⟨F3, B.t, ?_, S.fn n03 tt, e2.2.fr f3 (fun k => ⟨by omega, by omega⟩), ⟨B.H.n, by simp, ?_, by rw [iv_stI, if_pos ⟨rfl, rfl⟩]; rfl, fun j hj => absurd hj (Nat.not_lt_zero j)⟩, wz, fun j hj => absurd hj (Nat.not_lt_zero j)⟩
    · rw [f3.2.2.1, e2.1.2.2.1, rv_stR, if_pos ⟨rfl, rfl⟩]
    · rw [iv_stI, if_neg (by omega), e2.1.2.2.2.2.2.1 _ _ (by omega)]
      exact B.H.i1
