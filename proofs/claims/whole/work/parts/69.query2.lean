/-! cell, hand, likely, likeliest, count on both sides -/
def cellA (s : ST) (y : DY) (c w : Int) : Int := if 0 ≤ c ∧ c < sN s then (if w = 0 then (sK s c.toNat : Int) else if w = 1 then (if (yD y).testBit c.toNat = true then 1 else 0) else if w = 2 then (nearF s c.toNat (yD y) : Int) else if w = 3 then (oddF s c.toNat (yD y) : Int) else if w = 4 then (handsB s y c.toNat : Int) else if w = 5 then (farF s c.toNat (yL y) : Int) else -2) else -2
theorem X_cell_g {T : Nat → Nat} {s : ST} {p : Nat} {y : DY} {v : Int} {hs : List DY} {nx : Nat} {h : AH} (B : BX T s p y v hs nx h) {c w : Int} (c1 : -2147483648 ≤ c) (c2 : c ≤ 2147483647) (w1 : -2147483648 ≤ w) (w2 : w ≤ 2147483647) : GI 7 m_X_cell [.ref 1, .int (kI c), .int (kI w)] h (kI (cellA s y c w)) (FG T h) := by
  have F := B.F
  have S := B.S
  have n2 := S.wf.n12
  have hm := B.wy.m12 S.wf
  have hl := B.wy.l12 S.wf
  refine GIo (s_X_cell_0 ?_)
  unfold cellA
  by_cases q : 0 ≤ c ∧ c < sN s
  · rw [if_pos q]
    have p1 : (0 ≤ c ∧ c < sN s) = True := eq_true q
    obtain ⟨c, rfl⟩ := Int.eq_ofNat_of_zero_le q.1
    have e : w = 0 ∨ w = 1 ∨ w = 2 ∨ w = 3 ∨ w = 4 ∨ w = 5 ∨ (¬ w = 0 ∧ ¬ w = 1 ∧ ¬ w = 2 ∧ ¬ w = 3 ∧ ¬ w = 4 ∧ ¬ w = 5) := by omega
    rcases e with rfl | rfl | rfl | rfl | rfl | rfl | ⟨z0', z1', z2', z3', z4', z5'⟩
    · simp (disch := omega) only [kd_1 F, B.r, S.k, ix_lit, inB_lit, decide_true, Bool.true_or, Bool.or_true, true_and, and_true, kI_add, kI_sub, kI_mul, tn_add, Int.toNat_natCast, Int.reduceToNat, kI_le, kI_lt, kI_inj, decide_eq_true_eq, Bool.not_eq_true', decide_eq_false_iff_not, not_true_eq_false, not_false_eq_true, Classical.not_not, Bool.false_eq_true, if_true, if_false, z0, bI_k0, bI_k1, isB_b, isB_0, isB_1, kI_long, kd_stI, ln_stI, rv_stI, Sh_hasCell_c S, p1, Sh_kindOf_c S, Int.reduceEq]
      exact ⟨rfl, FG_rfl T h⟩
    · simp (disch := omega) only [kd_1 F, B.r, S.k, rv_1_3 F, kd_8 F, ix_lit, inB_lit, decide_true, Bool.true_or, Bool.or_true, true_and, and_true, kI_add, kI_sub, kI_mul, tn_add, Int.toNat_natCast, Int.reduceToNat, kI_le, kI_lt, kI_inj, decide_eq_true_eq, Bool.not_eq_true', decide_eq_false_iff_not, not_true_eq_false, not_false_eq_true, Classical.not_not, Bool.false_eq_true, if_true, if_false, z0, bI_k0, bI_k1, isB_b, isB_0, isB_1, kI_long, kd_stI, ln_stI, rv_stI, Sh_hasCell_c S, p1, Pg_isDrawn_c F PG8 B.P hm, Int.reduceEq]
      by_cases z : (yD y).testBit c = true
      · rw [if_neg (fun w => w z), if_pos z]
        exact ⟨rfl, FG_rfl T h⟩
      · rw [if_pos z, if_neg z]
        exact ⟨rfl, FG_rfl T h⟩
    · simp (disch := omega) only [kd_1 F, B.r, S.k, rv_1_3 F, kd_8 F, ix_lit, inB_lit, decide_true, Bool.true_or, Bool.or_true, true_and, and_true, kI_add, kI_sub, kI_mul, tn_add, Int.toNat_natCast, Int.reduceToNat, kI_le, kI_lt, kI_inj, decide_eq_true_eq, Bool.not_eq_true', decide_eq_false_iff_not, not_true_eq_false, not_false_eq_true, Classical.not_not, Bool.false_eq_true, if_true, if_false, z0, bI_k0, bI_k1, isB_b, isB_0, isB_1, kI_long, kd_stI, ln_stI, rv_stI, Sh_hasCell_c S, p1, B.P.i0, Sh_near_c S, Int.reduceEq]
      exact ⟨rfl, FG_rfl T h⟩
    · simp (disch := omega) only [kd_1 F, B.r, S.k, rv_1_3 F, kd_8 F, ix_lit, inB_lit, decide_true, Bool.true_or, Bool.or_true, true_and, and_true, kI_add, kI_sub, kI_mul, tn_add, Int.toNat_natCast, Int.reduceToNat, kI_le, kI_lt, kI_inj, decide_eq_true_eq, Bool.not_eq_true', decide_eq_false_iff_not, not_true_eq_false, not_false_eq_true, Classical.not_not, Bool.false_eq_true, if_true, if_false, z0, bI_k0, bI_k1, isB_b, isB_0, isB_1, kI_long, kd_stI, ln_stI, rv_stI, Sh_hasCell_c S, p1, B.P.i0, Int.reduceEq]
      exact GI.use (Sh_oddsOf_g S (by omega) hm) (by omega) (fun h' e => ⟨rfl, e⟩)
    · simp (disch := omega) only [kd_1 F, B.r, S.k, ix_lit, inB_lit, decide_true, Bool.true_or, Bool.or_true, true_and, and_true, kI_add, kI_sub, kI_mul, tn_add, Int.toNat_natCast, Int.reduceToNat, kI_le, kI_lt, kI_inj, decide_eq_true_eq, Bool.not_eq_true', decide_eq_false_iff_not, not_true_eq_false, not_false_eq_true, Classical.not_not, Bool.false_eq_true, if_true, if_false, z0, bI_k0, bI_k1, isB_b, isB_0, isB_1, kI_long, kd_stI, ln_stI, rv_stI, Sh_hasCell_c S, p1, Int.reduceEq]
      exact GI.use (X_handsFor_g B (by omega)) (by omega) (fun h' e => ⟨rfl, e⟩)
    · simp (disch := omega) only [kd_1 F, B.r, S.k, rv_1_3 F, kd_8 F, ix_lit, inB_lit, decide_true, Bool.true_or, Bool.or_true, true_and, and_true, kI_add, kI_sub, kI_mul, tn_add, Int.toNat_natCast, Int.reduceToNat, kI_le, kI_lt, kI_inj, decide_eq_true_eq, Bool.not_eq_true', decide_eq_false_iff_not, not_true_eq_false, not_false_eq_true, Classical.not_not, Bool.false_eq_true, if_true, if_false, z0, bI_k0, bI_k1, isB_b, isB_0, isB_1, kI_long, kd_stI, ln_stI, rv_stI, Sh_hasCell_c S, p1, B.P.i1, Sh_steps_c S, Int.reduceEq]
      exact ⟨rfl, FG_rfl T h⟩
    · simp (disch := omega) only [kd_1 F, B.r, S.k, ix_lit, inB_lit, decide_true, Bool.true_or, Bool.or_true, true_and, and_true, kI_add, kI_sub, kI_mul, tn_add, Int.toNat_natCast, Int.reduceToNat, kI_le, kI_lt, kI_inj, decide_eq_true_eq, Bool.not_eq_true', decide_eq_false_iff_not, not_true_eq_false, not_false_eq_true, Classical.not_not, Bool.false_eq_true, if_true, if_false, z0, bI_k0, bI_k1, isB_b, isB_0, isB_1, kI_long, kd_stI, ln_stI, rv_stI, Sh_hasCell_c S, p1, z0', z1', z2', z3', z4', z5']
      exact ⟨rfl, FG_rfl T h⟩
  · rw [if_neg q]
    simp (disch := omega) only [kd_1 F, B.r, S.k, ix_lit, inB_lit, decide_true, Bool.true_or, Bool.or_true, true_and, and_true, kI_add, kI_sub, kI_mul, tn_add, Int.toNat_natCast, Int.reduceToNat, kI_le, kI_lt, kI_inj, decide_eq_true_eq, Bool.not_eq_true', decide_eq_false_iff_not, not_true_eq_false, not_false_eq_true, Classical.not_not, Bool.false_eq_true, if_true, if_false, z0, bI_k0, bI_k1, isB_b, isB_0, isB_1, kI_long, kd_stI, ln_stI, rv_stI, Sh_hasCell_c S, eq_false q]
    exact ⟨rfl, FG_rfl T h⟩
theorem M_cell_g {s : ST} {y : DY} {h : AH} (C0 : MC s y h) {c w : Int} (c1 : -2147483648 ≤ c) (c2 : c ≤ 2147483647) (w1 : -2147483648 ≤ w) (w2 : w ≤ 2147483647) : GI 8 m_M_cell [.ref 88, .int (kI c), .int (kI w)] h (kI (cellA s y c w)) (Fr IM JM h) := by
  have e0 := f88 h
  have C := C0.fr e0
  have F := C.fix
  have n2 := C.wf.n12
  have hm := C.wy.m12 C.wf
  have hl := C.wy.l12 C.wf
  refine GIo (s_M_cell_0 ?_)
  unfold cellA
  by_cases q : 0 ≤ c ∧ c < sN s
  · rw [if_pos q]
    have p1 : (0 ≤ c ∧ c < sN s) = True := eq_true q
    obtain ⟨c, rfl⟩ := Int.eq_ofNat_of_zero_le q.1
    have e : w = 0 ∨ w = 1 ∨ w = 2 ∨ w = 3 ∨ w = 4 ∨ w = 5 ∨ (¬ w = 0 ∧ ¬ w = 1 ∧ ¬ w = 2 ∧ ¬ w = 3 ∧ ¬ w = 4 ∧ ¬ w = 5) := by omega
    rcases e with rfl | rfl | rfl | rfl | rfl | rfl | ⟨z0', z1', z2', z3', z4', z5'⟩
    · simp (disch := omega) only [kd_88 C0.fix, kd_88 F, rv_88_1 F, kd_89 F, ln_89 F, ix_lit, inB_lit, decide_true, Bool.true_or, Bool.or_true, true_and, and_true, kI_add, kI_sub, kI_mul, tn_add, Int.toNat_natCast, Int.reduceToNat, kI_le, kI_lt, kI_inj, decide_eq_true_eq, Bool.not_eq_true', decide_eq_false_iff_not, not_true_eq_false, not_false_eq_true, Classical.not_not, Bool.false_eq_true, if_true, if_false, z0, bI_k0, bI_k1, isB_b, isB_0, isB_1, kI_long, kd_stI, ln_stI, rv_stI, M_isCell_c C, p1, C.ik, Int.reduceEq]
      exact ⟨rfl, e0⟩
    · simp (disch := omega) only [kd_88 C0.fix, kd_88 F, rv_88_1 F, kd_89 F, ln_89 F, ix_lit, inB_lit, decide_true, Bool.true_or, Bool.or_true, true_and, and_true, kI_add, kI_sub, kI_mul, tn_add, Int.toNat_natCast, Int.reduceToNat, kI_le, kI_lt, kI_inj, decide_eq_true_eq, Bool.not_eq_true', decide_eq_false_iff_not, not_true_eq_false, not_false_eq_true, Classical.not_not, Bool.false_eq_true, if_true, if_false, z0, bI_k0, bI_k1, isB_b, isB_0, isB_1, kI_long, kd_stI, ln_stI, rv_stI, M_isCell_c C, p1, C.i22, kI_bit, Int.reduceEq]
      unfold bI32
      by_cases z : (yD y).testBit c = true
      · rw [if_pos z, if_pos z]
        exact ⟨rfl, e0⟩
      · rw [if_neg z, if_neg z]
        exact ⟨rfl, e0⟩
    · simp (disch := omega) only [kd_88 C0.fix, kd_88 F, rv_88_1 F, kd_89 F, ln_89 F, ix_lit, inB_lit, decide_true, Bool.true_or, Bool.or_true, true_and, and_true, kI_add, kI_sub, kI_mul, tn_add, Int.toNat_natCast, Int.reduceToNat, kI_le, kI_lt, kI_inj, decide_eq_true_eq, Bool.not_eq_true', decide_eq_false_iff_not, not_true_eq_false, not_false_eq_true, Classical.not_not, Bool.false_eq_true, if_true, if_false, z0, bI_k0, bI_k1, isB_b, isB_0, isB_1, kI_long, kd_stI, ln_stI, rv_stI, M_isCell_c C, p1, C.i22, M_nearOf_c C, Int.reduceEq]
      exact ⟨rfl, e0⟩
    · simp (disch := omega) only [kd_88 C0.fix, kd_88 F, rv_88_1 F, kd_89 F, ln_89 F, ix_lit, inB_lit, decide_true, Bool.true_or, Bool.or_true, true_and, and_true, kI_add, kI_sub, kI_mul, tn_add, Int.toNat_natCast, Int.reduceToNat, kI_le, kI_lt, kI_inj, decide_eq_true_eq, Bool.not_eq_true', decide_eq_false_iff_not, not_true_eq_false, not_false_eq_true, Classical.not_not, Bool.false_eq_true, if_true, if_false, z0, bI_k0, bI_k1, isB_b, isB_0, isB_1, kI_long, kd_stI, ln_stI, rv_stI, M_isCell_c C, p1, Int.reduceEq]
      exact GI.use (M_oddsOf_g C (by omega)) (by omega) (fun h' e => ⟨rfl, e0.trans e⟩)
    · simp (disch := omega) only [kd_88 C0.fix, kd_88 F, rv_88_1 F, kd_89 F, ln_89 F, ix_lit, inB_lit, decide_true, Bool.true_or, Bool.or_true, true_and, and_true, kI_add, kI_sub, kI_mul, tn_add, Int.toNat_natCast, Int.reduceToNat, kI_le, kI_lt, kI_inj, decide_eq_true_eq, Bool.not_eq_true', decide_eq_false_iff_not, not_true_eq_false, not_false_eq_true, Classical.not_not, Bool.false_eq_true, if_true, if_false, z0, bI_k0, bI_k1, isB_b, isB_0, isB_1, kI_long, kd_stI, ln_stI, rv_stI, M_isCell_c C, p1, Int.reduceEq]
      exact GI.use (M_handsOf_g C (by omega)) (by omega) (fun h' e => ⟨rfl, e0.trans e⟩)
    · simp (disch := omega) only [kd_88 C0.fix, kd_88 F, rv_88_1 F, kd_89 F, ln_89 F, ix_lit, inB_lit, decide_true, Bool.true_or, Bool.or_true, true_and, and_true, kI_add, kI_sub, kI_mul, tn_add, Int.toNat_natCast, Int.reduceToNat, kI_le, kI_lt, kI_inj, decide_eq_true_eq, Bool.not_eq_true', decide_eq_false_iff_not, not_true_eq_false, not_false_eq_true, Classical.not_not, Bool.false_eq_true, if_true, if_false, z0, bI_k0, bI_k1, isB_b, isB_0, isB_1, kI_long, kd_stI, ln_stI, rv_stI, M_isCell_c C, p1, C.i23, M_farOf_c C, Int.reduceEq]
      exact ⟨rfl, e0⟩
    · simp (disch := omega) only [kd_88 C0.fix, kd_88 F, rv_88_1 F, kd_89 F, ln_89 F, ix_lit, inB_lit, decide_true, Bool.true_or, Bool.or_true, true_and, and_true, kI_add, kI_sub, kI_mul, tn_add, Int.toNat_natCast, Int.reduceToNat, kI_le, kI_lt, kI_inj, decide_eq_true_eq, Bool.not_eq_true', decide_eq_false_iff_not, not_true_eq_false, not_false_eq_true, Classical.not_not, Bool.false_eq_true, if_true, if_false, z0, bI_k0, bI_k1, isB_b, isB_0, isB_1, kI_long, kd_stI, ln_stI, rv_stI, M_isCell_c C, p1, z0', z1', z2', z3', z4', z5']
      exact ⟨rfl, e0⟩
  · rw [if_neg q]
    simp (disch := omega) only [kd_88 C0.fix, kd_88 F, rv_88_1 F, kd_89 F, ln_89 F, ix_lit, inB_lit, decide_true, Bool.true_or, Bool.or_true, true_and, and_true, kI_add, kI_sub, kI_mul, tn_add, Int.toNat_natCast, Int.reduceToNat, kI_le, kI_lt, kI_inj, decide_eq_true_eq, Bool.not_eq_true', decide_eq_false_iff_not, not_true_eq_false, not_false_eq_true, Classical.not_not, Bool.false_eq_true, if_true, if_false, z0, bI_k0, bI_k1, isB_b, isB_0, isB_1, kI_long, kd_stI, ln_stI, rv_stI, M_isCell_c C, eq_false q]
    exact ⟨rfl, e0⟩
def handA (s : ST) (y : DY) (a w : Int) : Int := if 0 ≤ a ∧ a < sH s then (if w = 0 then (yB y a.toNat : Int) else if w = 1 then (cellsB s y a.toNat : Int) else -2) else -2
theorem X_hand_g {T : Nat → Nat} {s : ST} {p : Nat} {y : DY} {v : Int} {hs : List DY} {nx : Nat} {h : AH} (B : BX T s p y v hs nx h) {c w : Int} (c1 : -2147483648 ≤ c) (c2 : c ≤ 2147483647) (w1 : -2147483648 ≤ w) (w2 : w ≤ 2147483647) : GI 7 m_X_hand [.ref 1, .int (kI c), .int (kI w)] h (kI (handA s y c w)) (FG T h) := by
  have F := B.F
  have S := B.S
  have h4 := S.wf.2.2.2.2.2.1
  refine GIo (s_X_hand_0 ?_)
  unfold handA
  by_cases q : 0 ≤ c ∧ c < sH s
  · rw [if_pos q]
    have p1 : (0 ≤ c ∧ c < sH s) = True := eq_true q
    obtain ⟨c, rfl⟩ := Int.eq_ofNat_of_zero_le q.1
    have e : w = 0 ∨ w = 1 ∨ (¬ w = 0 ∧ ¬ w = 1) := by omega
    rcases e with rfl | rfl | ⟨z0', z1'⟩
    · simp (disch := omega) only [kd_1 F, B.r, S.k, rv_1_3 F, kd_8 F, ix_lit, inB_lit, decide_true, Bool.true_or, Bool.or_true, true_and, and_true, kI_add, kI_sub, kI_mul, tn_add, Int.toNat_natCast, Int.reduceToNat, kI_le, kI_lt, kI_inj, decide_eq_true_eq, Bool.not_eq_true', decide_eq_false_iff_not, not_true_eq_false, not_false_eq_true, Classical.not_not, Bool.false_eq_true, if_true, if_false, z0, bI_k0, bI_k1, isB_b, isB_0, isB_1, kI_long, kd_stI, ln_stI, rv_stI, Sh_hasHand_c S, p1, Pg_habitOf_c F PG8 B.P, Int.reduceEq]
      exact ⟨rfl, FG_rfl T h⟩
    · simp (disch := omega) only [kd_1 F, B.r, S.k, ix_lit, inB_lit, decide_true, Bool.true_or, Bool.or_true, true_and, and_true, kI_add, kI_sub, kI_mul, tn_add, Int.toNat_natCast, Int.reduceToNat, kI_le, kI_lt, kI_inj, decide_eq_true_eq, Bool.not_eq_true', decide_eq_false_iff_not, not_true_eq_false, not_false_eq_true, Classical.not_not, Bool.false_eq_true, if_true, if_false, z0, bI_k0, bI_k1, isB_b, isB_0, isB_1, kI_long, kd_stI, ln_stI, rv_stI, Sh_hasHand_c S, p1, Int.reduceEq]
      exact GI.use (X_cellsFor_g B (by omega)) (by omega) (fun h' e => ⟨rfl, e⟩)
    · simp (disch := omega) only [kd_1 F, B.r, S.k, ix_lit, inB_lit, decide_true, Bool.true_or, Bool.or_true, true_and, and_true, kI_add, kI_sub, kI_mul, tn_add, Int.toNat_natCast, Int.reduceToNat, kI_le, kI_lt, kI_inj, decide_eq_true_eq, Bool.not_eq_true', decide_eq_false_iff_not, not_true_eq_false, not_false_eq_true, Classical.not_not, Bool.false_eq_true, if_true, if_false, z0, bI_k0, bI_k1, isB_b, isB_0, isB_1, kI_long, kd_stI, ln_stI, rv_stI, Sh_hasHand_c S, p1, z0', z1']
      exact ⟨rfl, FG_rfl T h⟩
  · rw [if_neg q]
    simp (disch := omega) only [kd_1 F, B.r, S.k, ix_lit, inB_lit, decide_true, Bool.true_or, Bool.or_true, true_and, and_true, kI_add, kI_sub, kI_mul, tn_add, Int.toNat_natCast, Int.reduceToNat, kI_le, kI_lt, kI_inj, decide_eq_true_eq, Bool.not_eq_true', decide_eq_false_iff_not, not_true_eq_false, not_false_eq_true, Classical.not_not, Bool.false_eq_true, if_true, if_false, z0, bI_k0, bI_k1, isB_b, isB_0, isB_1, kI_long, kd_stI, ln_stI, rv_stI, Sh_hasHand_c S, eq_false q]
    exact ⟨rfl, FG_rfl T h⟩
theorem M_hand_g {s : ST} {y : DY} {h : AH} (C0 : MC s y h) {c w : Int} (c1 : -2147483648 ≤ c) (c2 : c ≤ 2147483647) (w1 : -2147483648 ≤ w) (w2 : w ≤ 2147483647) : GI 8 m_M_hand [.ref 88, .int (kI c), .int (kI w)] h (kI (handA s y c w)) (Fr IM JM h) := by
  have e0 := f88 h
  have C := C0.fr e0
  have F := C.fix
  have h4 := C.wf.2.2.2.2.2.1
  refine GIo (s_M_hand_0 ?_)
  unfold handA
  by_cases q : 0 ≤ c ∧ c < sH s
  · rw [if_pos q]
    have p1 : (0 ≤ c ∧ c < sH s) = True := eq_true q
    obtain ⟨c, rfl⟩ := Int.eq_ofNat_of_zero_le q.1
    have e : w = 0 ∨ w = 1 ∨ (¬ w = 0 ∧ ¬ w = 1) := by omega
    rcases e with rfl | rfl | ⟨z0', z1'⟩
    · simp (disch := omega) only [kd_88 C0.fix, kd_88 F, rv_88_1 F, kd_89 F, ln_89 F, ix_lit, inB_lit, decide_true, Bool.true_or, Bool.or_true, true_and, and_true, kI_add, kI_sub, kI_mul, tn_add, Int.toNat_natCast, Int.reduceToNat, kI_le, kI_lt, kI_inj, decide_eq_true_eq, Bool.not_eq_true', decide_eq_false_iff_not, not_true_eq_false, not_false_eq_true, Classical.not_not, Bool.false_eq_true, if_true, if_false, z0, bI_k0, bI_k1, isB_b, isB_0, isB_1, kI_long, kd_stI, ln_stI, rv_stI, M_isHand_c C, p1, M_within_c, Int.reduceEq, Int.reduceLE, C.ib]
      exact ⟨rfl, e0⟩
    · simp (disch := omega) only [kd_88 C0.fix, kd_88 F, rv_88_1 F, kd_89 F, ln_89 F, ix_lit, inB_lit, decide_true, Bool.true_or, Bool.or_true, true_and, and_true, kI_add, kI_sub, kI_mul, tn_add, Int.toNat_natCast, Int.reduceToNat, kI_le, kI_lt, kI_inj, decide_eq_true_eq, Bool.not_eq_true', decide_eq_false_iff_not, not_true_eq_false, not_false_eq_true, Classical.not_not, Bool.false_eq_true, if_true, if_false, z0, bI_k0, bI_k1, isB_b, isB_0, isB_1, kI_long, kd_stI, ln_stI, rv_stI, M_isHand_c C, p1, M_within_c, Int.reduceEq, Int.reduceLE]
      exact GI.use (M_cellsOf_g C (by omega)) (by omega) (fun h' e => ⟨rfl, e0.trans e⟩)
    · have p2 : (0 ≤ w ∧ w ≤ 1) = False := eq_false (by omega)
      simp (disch := omega) only [kd_88 C0.fix, kd_88 F, rv_88_1 F, kd_89 F, ln_89 F, ix_lit, inB_lit, decide_true, Bool.true_or, Bool.or_true, true_and, and_true, kI_add, kI_sub, kI_mul, tn_add, Int.toNat_natCast, Int.reduceToNat, kI_le, kI_lt, kI_inj, decide_eq_true_eq, Bool.not_eq_true', decide_eq_false_iff_not, not_true_eq_false, not_false_eq_true, Classical.not_not, Bool.false_eq_true, if_true, if_false, z0, bI_k0, bI_k1, isB_b, isB_0, isB_1, kI_long, kd_stI, ln_stI, rv_stI, M_isHand_c C, p1, M_within_c, p2, z0', z1']
      exact ⟨rfl, e0⟩
  · rw [if_neg q]
    simp (disch := omega) only [kd_88 C0.fix, kd_88 F, rv_88_1 F, kd_89 F, ln_89 F, ix_lit, inB_lit, decide_true, Bool.true_or, Bool.or_true, true_and, and_true, kI_add, kI_sub, kI_mul, tn_add, Int.toNat_natCast, Int.reduceToNat, kI_le, kI_lt, kI_inj, decide_eq_true_eq, Bool.not_eq_true', decide_eq_false_iff_not, not_true_eq_false, not_false_eq_true, Classical.not_not, Bool.false_eq_true, if_true, if_false, z0, bI_k0, bI_k1, isB_b, isB_0, isB_1, kI_long, kd_stI, ln_stI, rv_stI, M_isHand_c C, eq_false q]
    exact ⟨rfl, e0⟩
theorem M_oddsAll_g {s : ST} {y : DY} {h : AH} (C : MC s y h) : GI 6 m_M_oddsAll [.ref 88] h (kI (oddsT s (yD y))) (Fr IM JM h) := by
  have n2 := C.wf.n12
  refine GIo (s_M_oddsAll_0 ?_)
  suffices H : ∀ k, k ≤ sN s → ∀ h1, Fr IM JM h h1 → Safe 5 m_M_oddsAll (4, [.ref 88, .int (kI (sumF (fun c => oddF s c (yD y)) k : Nat)), .int (kI k)], [], h1) (fun w h' => Eqv w (some (.int (kI (oddsT s (yD y))))) ∧ Fr IM JM h h') by
    exact H 0 (by omega) h (Fr_rfl _ _ _)
  refine down_ind (sN s) ?_ ?_
  · intro h1 e1
    have C1 := C.fr e1
    refine s_M_oddsAll_4 ?_
    simp (disch := omega) only [kd_88 C1.fix, M_cells_c C1, ix_lit, inB_lit, decide_true, Bool.true_or, Bool.or_true, true_and, and_true, kI_add, kI_sub, kI_mul, tn_add, Int.toNat_natCast, Int.reduceToNat, kI_le, kI_lt, kI_inj, decide_eq_true_eq, Bool.not_eq_true', decide_eq_false_iff_not, not_true_eq_false, not_false_eq_true, Classical.not_not, Bool.false_eq_true, if_true, if_false, z0, bI_k0, bI_k1, isB_b, isB_0, isB_1, kI_long, kd_stI, ln_stI, rv_stI, Int.le_refl]
    exact ⟨rfl, e1⟩
  · intro k hk ih h1 e1
    have C1 := C.fr e1
    refine s_M_oddsAll_4 ?_
    simp (disch := omega) only [kd_88 C1.fix, M_cells_c C1, ix_lit, inB_lit, decide_true, Bool.true_or, Bool.or_true, true_and, and_true, kI_add, kI_sub, kI_mul, tn_add, Int.toNat_natCast, Int.reduceToNat, kI_le, kI_lt, kI_inj, decide_eq_true_eq, Bool.not_eq_true', decide_eq_false_iff_not, not_true_eq_false, not_false_eq_true, Classical.not_not, Bool.false_eq_true, if_true, if_false, z0, bI_k0, bI_k1, isB_b, isB_0, isB_1, kI_long, kd_stI, ln_stI, rv_stI]
    rw [if_neg (by omega)]
    refine GI.use (M_oddsOf_g C1 hk) (by omega) (fun h2 e2 => ?_)
    simp only [kI_add]
    exact ih h2 (e1.trans e2)
def likA (s : ST) (y : DY) (c w : Int) : Int := if 0 ≤ c ∧ c < sN s then (if 0 ≤ w ∧ w ≤ 1 then (if oddsT s (yD y) = 0 then -1 else (((if w = 0 then oddF s c.toNat (yD y) else oddsT s (yD y)) / Nat.gcd (oddF s c.toNat (yD y)) (oddsT s (yD y)) : Nat) : Int)) else -2) else -2
theorem X_likely_g {T : Nat → Nat} {s : ST} {p : Nat} {y : DY} {v : Int} {hs : List DY} {nx : Nat} {h : AH} (B : BX T s p y v hs nx h) {c w : Int} (c1 : -2147483648 ≤ c) (c2 : c ≤ 2147483647) (w1 : -2147483648 ≤ w) (w2 : w ≤ 2147483647) : GI 7 m_X_likely [.ref 1, .int (kI c), .int (kI w)] h (kI (likA s y c w)) (FG T h) := by
  have F := B.F
  have S := B.S
  have n2 := S.wf.n12
  have hm := B.wy.m12 S.wf
  have ol := oddsT_le S.wf (yD y)
  refine GIo (s_X_likely_0 ?_)
  unfold likA
  by_cases q : 0 ≤ c ∧ c < sN s
  · rw [if_pos q]
    have p1 : (0 ≤ c ∧ c < sN s) = True := eq_true q
    obtain ⟨c, rfl⟩ := Int.eq_ofNat_of_zero_le q.1
    by_cases q2 : 0 ≤ w ∧ w ≤ 1
    · rw [if_pos q2]
      have z1 : ¬ w < 0 := by omega
      simp (disch := omega) only [kd_1 F, B.r, S.k, rv_1_3 F, kd_8 F, ix_lit, inB_lit, decide_true, Bool.true_or, Bool.or_true, true_and, and_true, kI_add, kI_sub, kI_mul, tn_add, Int.toNat_natCast, Int.reduceToNat, kI_le, kI_lt, kI_inj, decide_eq_true_eq, Bool.not_eq_true', decide_eq_false_iff_not, not_true_eq_false, not_false_eq_true, Classical.not_not, Bool.false_eq_true, if_true, if_false, z0, bI_k0, bI_k1, isB_b, isB_0, isB_1, kI_long, kd_stI, ln_stI, rv_stI, Sh_hasCell_c S, p1, z1, q2.2, B.P.i0]
      refine GI.use (Sh_allOdds_g S hm) (by omega) (fun h1 e1 => ?_)
      have B1 := B.scr e1 (fun a k w => Or.inl w)
      have F1 := B1.F
      by_cases z : oddsT s (yD y) = 0
      · rw [if_pos z]
        have z' : (oddsT s (yD y) : Int) = 0 := by omega
        simp (disch := omega) only [ix_lit, inB_lit, decide_true, Bool.true_or, Bool.or_true, true_and, and_true, kI_add, kI_sub, kI_mul, tn_add, Int.toNat_natCast, Int.reduceToNat, kI_le, kI_lt, kI_inj, decide_eq_true_eq, Bool.not_eq_true', decide_eq_false_iff_not, not_true_eq_false, not_false_eq_true, Classical.not_not, Bool.false_eq_true, if_true, if_false, z0, bI_k0, bI_k1, isB_b, isB_0, isB_1, kI_long, kd_stI, ln_stI, rv_stI, z']
        exact ⟨rfl, e1⟩
      · rw [if_neg z]
        have z' : ¬ (oddsT s (yD y) : Int) = 0 := by omega
        simp (disch := omega) only [kd_1 F1, B1.r, B1.S.k, rv_1_3 F1, kd_8 F1, ix_lit, inB_lit, decide_true, Bool.true_or, Bool.or_true, true_and, and_true, kI_add, kI_sub, kI_mul, tn_add, Int.toNat_natCast, Int.reduceToNat, kI_le, kI_lt, kI_inj, decide_eq_true_eq, Bool.not_eq_true', decide_eq_false_iff_not, not_true_eq_false, not_false_eq_true, Classical.not_not, Bool.false_eq_true, if_true, if_false, z0, bI_k0, bI_k1, isB_b, isB_0, isB_1, kI_long, kd_stI, ln_stI, rv_stI, z', B1.P.i0]
        refine GI.use (Sh_oddsOf_g B1.S (c := c) (by omega) hm) (by omega) (fun h2 e2 => ?_)
        have o9 := oddF_le s c (yD y)
        have g9 : (if w = 0 then oddF s c (yD y) else oddsT s (yD y)) / Nat.gcd (oddF s c (yD y)) (oddsT s (yD y)) ≤ 12000 := Nat.le_trans (Nat.div_le_self _ _) (by split <;> omega)
        simp (disch := omega) only [kI_long, X_lowest_c, Int.toNat_natCast]
        generalize (if w = 0 then oddF s c (yD y) else oddsT s (yD y)) / Nat.gcd (oddF s c (yD y)) (oddsT s (yD y)) = g at g9 ⊢
        rw [kJ_int (by omega) (by omega)]
        exact ⟨rfl, e1.trans e2⟩
    · rw [if_neg q2]
      by_cases z1 : w < 0
      · simp (disch := omega) only [kd_1 F, B.r, S.k, ix_lit, inB_lit, decide_true, Bool.true_or, Bool.or_true, true_and, and_true, kI_add, kI_sub, kI_mul, tn_add, Int.toNat_natCast, Int.reduceToNat, kI_le, kI_lt, kI_inj, decide_eq_true_eq, Bool.not_eq_true', decide_eq_false_iff_not, not_true_eq_false, not_false_eq_true, Classical.not_not, Bool.false_eq_true, if_true, if_false, z0, bI_k0, bI_k1, isB_b, isB_0, isB_1, kI_long, kd_stI, ln_stI, rv_stI, Sh_hasCell_c S, p1, z1]
        exact ⟨rfl, FG_rfl T h⟩
      · have z2 : ¬ w ≤ 1 := by omega
        simp (disch := omega) only [kd_1 F, B.r, S.k, ix_lit, inB_lit, decide_true, Bool.true_or, Bool.or_true, true_and, and_true, kI_add, kI_sub, kI_mul, tn_add, Int.toNat_natCast, Int.reduceToNat, kI_le, kI_lt, kI_inj, decide_eq_true_eq, Bool.not_eq_true', decide_eq_false_iff_not, not_true_eq_false, not_false_eq_true, Classical.not_not, Bool.false_eq_true, if_true, if_false, z0, bI_k0, bI_k1, isB_b, isB_0, isB_1, kI_long, kd_stI, ln_stI, rv_stI, Sh_hasCell_c S, p1, z1, z2]
        exact ⟨rfl, FG_rfl T h⟩
  · rw [if_neg q]
    simp (disch := omega) only [kd_1 F, B.r, S.k, ix_lit, inB_lit, decide_true, Bool.true_or, Bool.or_true, true_and, and_true, kI_add, kI_sub, kI_mul, tn_add, Int.toNat_natCast, Int.reduceToNat, kI_le, kI_lt, kI_inj, decide_eq_true_eq, Bool.not_eq_true', decide_eq_false_iff_not, not_true_eq_false, not_false_eq_true, Classical.not_not, Bool.false_eq_true, if_true, if_false, z0, bI_k0, bI_k1, isB_b, isB_0, isB_1, kI_long, kd_stI, ln_stI, rv_stI, Sh_hasCell_c S, eq_false q]
    exact ⟨rfl, FG_rfl T h⟩
theorem M_likely_g {s : ST} {y : DY} {h : AH} (C0 : MC s y h) {c w : Int} (c1 : -2147483648 ≤ c) (c2 : c ≤ 2147483647) (w1 : -2147483648 ≤ w) (w2 : w ≤ 2147483647) : GI 41 m_M_likely [.ref 88, .int (kI c), .int (kI w)] h (kI (likA s y c w)) (Fr IM JM h) := by
  have e0 := f88 h
  have C := C0.fr e0
  have F := C.fix
  have n2 := C.wf.n12
  have hm := C.wy.m12 C.wf
  have ol := oddsT_le C.wf (yD y)
  refine GIo (s_M_likely_0 ?_)
  unfold likA
  by_cases q : 0 ≤ c ∧ c < sN s
  · rw [if_pos q]
    have p1 : (0 ≤ c ∧ c < sN s) = True := eq_true q
    obtain ⟨c, rfl⟩ := Int.eq_ofNat_of_zero_le q.1
    by_cases q2 : 0 ≤ w ∧ w ≤ 1
    · rw [if_pos q2]
      have p2 : (0 ≤ w ∧ w ≤ 1) = True := eq_true q2
      simp (disch := omega) only [kd_88 C0.fix, kd_88 F, ix_lit, inB_lit, decide_true, Bool.true_or, Bool.or_true, true_and, and_true, kI_add, kI_sub, kI_mul, tn_add, Int.toNat_natCast, Int.reduceToNat, kI_le, kI_lt, kI_inj, decide_eq_true_eq, Bool.not_eq_true', decide_eq_false_iff_not, not_true_eq_false, not_false_eq_true, Classical.not_not, Bool.false_eq_true, if_true, if_false, z0, bI_k0, bI_k1, isB_b, isB_0, isB_1, kI_long, kd_stI, ln_stI, rv_stI, M_isCell_c C, p1, M_within_c, p2]
      refine GI.use (M_oddsAll_g C) (by omega) (fun h1 e1 => ?_)
      have C1 := C.fr e1
      by_cases z : oddsT s (yD y) = 0
      · rw [if_pos z]
        have z' : (oddsT s (yD y) : Int) = 0 := by omega
        simp (disch := omega) only [ix_lit, inB_lit, decide_true, Bool.true_or, Bool.or_true, true_and, and_true, kI_add, kI_sub, kI_mul, tn_add, Int.toNat_natCast, Int.reduceToNat, kI_le, kI_lt, kI_inj, decide_eq_true_eq, Bool.not_eq_true', decide_eq_false_iff_not, not_true_eq_false, not_false_eq_true, Classical.not_not, Bool.false_eq_true, if_true, if_false, z0, bI_k0, bI_k1, isB_b, isB_0, isB_1, kI_long, kd_stI, ln_stI, rv_stI, z']
        exact ⟨rfl, e0.trans e1⟩
      · rw [if_neg z]
        have z' : ¬ (oddsT s (yD y) : Int) = 0 := by omega
        simp (disch := omega) only [kd_88 C1.fix, ix_lit, inB_lit, decide_true, Bool.true_or, Bool.or_true, true_and, and_true, kI_add, kI_sub, kI_mul, tn_add, Int.toNat_natCast, Int.reduceToNat, kI_le, kI_lt, kI_inj, decide_eq_true_eq, Bool.not_eq_true', decide_eq_false_iff_not, not_true_eq_false, not_false_eq_true, Classical.not_not, Bool.false_eq_true, if_true, if_false, z0, bI_k0, bI_k1, isB_b, isB_0, isB_1, kI_long, kd_stI, ln_stI, rv_stI, z']
        refine GI.use (M_oddsOf_g C1 (c := c) (by omega)) (by omega) (fun h2 e2 => ?_)
        have C2 := C1.fr e2
        refine ⟨kd_88 C2.fix ▸ rfl, ?_⟩
        refine GI.use (M_oddsAll_g C2) (by omega) (fun h3 e3 => ?_)
        have o9 := oddF_le s c (yD y)
        simp (disch := omega) only [M_part_c, Int.toNat_natCast]
        exact ⟨rfl, e0.trans (e1.trans (e2.trans e3))⟩
    · rw [if_neg q2]
      simp (disch := omega) only [kd_88 C0.fix, kd_88 F, ix_lit, inB_lit, decide_true, Bool.true_or, Bool.or_true, true_and, and_true, kI_add, kI_sub, kI_mul, tn_add, Int.toNat_natCast, Int.reduceToNat, kI_le, kI_lt, kI_inj, decide_eq_true_eq, Bool.not_eq_true', decide_eq_false_iff_not, not_true_eq_false, not_false_eq_true, Classical.not_not, Bool.false_eq_true, if_true, if_false, z0, bI_k0, bI_k1, isB_b, isB_0, isB_1, kI_long, kd_stI, ln_stI, rv_stI, M_isCell_c C, p1, M_within_c, eq_false q2]
      exact ⟨rfl, e0⟩
  · rw [if_neg q]
    simp (disch := omega) only [kd_88 C0.fix, kd_88 F, ix_lit, inB_lit, decide_true, Bool.true_or, Bool.or_true, true_and, and_true, kI_add, kI_sub, kI_mul, tn_add, Int.toNat_natCast, Int.reduceToNat, kI_le, kI_lt, kI_inj, decide_eq_true_eq, Bool.not_eq_true', decide_eq_false_iff_not, not_true_eq_false, not_false_eq_true, Classical.not_not, Bool.false_eq_true, if_true, if_false, z0, bI_k0, bI_k1, isB_b, isB_0, isB_1, kI_long, kd_stI, ln_stI, rv_stI, M_isCell_c C, eq_false q]
    exact ⟨rfl, e0⟩
def lkF (s : ST) (m : Nat) : Nat → Int × Nat
  | 0 => (-1, 0)
  | k + 1 => if (lkF s m k).2 < oddF s k m then ((k : Int), oddF s k m) else lkF s m k
theorem lkF_b (s : ST) (m : Nat) : ∀ k, (lkF s m k).2 ≤ 999
  | 0 => by show 0 ≤ 999; omega
  | k + 1 => by
    show (if (lkF s m k).2 < oddF s k m then ((k : Int), oddF s k m) else lkF s m k).2 ≤ 999
    split
    · exact oddF_le _ _ _
    · exact lkF_b s m k
theorem X_likeliest_g {T : Nat → Nat} {s : ST} {p : Nat} {y : DY} {v : Int} {hs : List DY} {nx : Nat} {h : AH} (B : BX T s p y v hs nx h) : GI 4 m_X_likeliest [.ref 1] h (kI (lkF s (yD y) (sN s)).1) (FG T h) := by
  have n2 := B.S.wf.n12
  have hm := B.wy.m12 B.S.wf
  refine GIo (s_X_likeliest_0 ?_)
  suffices H : ∀ k, k ≤ sN s → ∀ h1, FG T h h1 → Safe 3 m_X_likeliest (6, [.ref 1, .int (kI (lkF s (yD y) k).2), .int (kI (lkF s (yD y) k).1), .int (kI k), unV], [], h1) (fun w h' => Eqv w (some (.int (kI (lkF s (yD y) (sN s)).1))) ∧ FG T h h') by
    exact H 0 (by omega) h (FG_rfl T h)
  refine down_ind (sN s) ?_ ?_
  · intro h1 e1
    have B1 := B.scr e1 (fun a k w => Or.inl w)
    refine s_X_likeliest_6 ?_
    simp (disch := omega) only [kd_1 B1.F, B1.r, B1.S.k, B1.S.i2, ix_lit, inB_lit, decide_true, Bool.true_or, Bool.or_true, true_and, and_true, kI_add, kI_sub, kI_mul, tn_add, Int.toNat_natCast, Int.reduceToNat, kI_le, kI_lt, kI_inj, decide_eq_true_eq, Bool.not_eq_true', decide_eq_false_iff_not, not_true_eq_false, not_false_eq_true, Classical.not_not, Bool.false_eq_true, if_true, if_false, z0, bI_k0, bI_k1, isB_b, isB_0, isB_1, kI_long, kd_stI, ln_stI, rv_stI, Int.le_refl]
    exact ⟨rfl, e1⟩
  · intro k hk ih h1 e1
    have B1 := B.scr e1 (fun a k w => Or.inl w)
    refine s_X_likeliest_6 ?_
    simp (disch := omega) only [kd_1 B1.F, B1.r, B1.S.k, B1.S.i2, rv_1_3 B1.F, kd_8 B1.F, ix_lit, inB_lit, decide_true, Bool.true_or, Bool.or_true, true_and, and_true, kI_add, kI_sub, kI_mul, tn_add, Int.toNat_natCast, Int.reduceToNat, kI_le, kI_lt, kI_inj, decide_eq_true_eq, Bool.not_eq_true', decide_eq_false_iff_not, not_true_eq_false, not_false_eq_true, Classical.not_not, Bool.false_eq_true, if_true, if_false, z0, bI_k0, bI_k1, isB_b, isB_0, isB_1, kI_long, kd_stI, ln_stI, rv_stI, B1.P.i0]
    rw [if_neg (by omega)]
    refine GI.use (Sh_oddsOf_g B1.S hk hm) (by omega) (fun h2 e2 => ?_)
    have := ih h2 (e1.trans e2)
    have l1 := lkF_b s (yD y) k
    have l2 := oddF_le s k (yD y)
    have e : lkF s (yD y) (k + 1) = if (lkF s (yD y) k).2 < oddF s k (yD y) then ((k : Int), oddF s k (yD y)) else lkF s (yD y) k := rfl
    rw [e] at this
    simp (disch := omega) only [ix_lit, inB_lit, decide_true, Bool.true_or, Bool.or_true, true_and, and_true, kI_add, kI_sub, kI_mul, tn_add, Int.toNat_natCast, Int.reduceToNat, kI_le, kI_lt, kI_inj, decide_eq_true_eq, Bool.not_eq_true', decide_eq_false_iff_not, not_true_eq_false, not_false_eq_true, Classical.not_not, Bool.false_eq_true, if_true, if_false, z0, bI_k0, bI_k1, isB_b, isB_0, isB_1, kI_long, kd_stI, ln_stI, rv_stI]
    by_cases q : (lkF s (yD y) k).2 < oddF s k (yD y)
    · rw [if_pos q] at this
      rw [if_neg (by omega)]
      exact this
    · rw [if_neg q] at this
      rw [if_pos (by omega)]
      exact this
theorem M_likeliest_g {s : ST} {y : DY} {h : AH} (C0 : MC s y h) : GI 6 m_M_likeliest [.ref 88] h (kI (lkF s (yD y) (sN s)).1) (Fr IM JM h) := by
  have n2 := C0.wf.n12
  refine GIo (s_M_likeliest_0 ?_)
  refine ⟨by rw [kd_88 C0.fix]; rfl, ?_⟩
  suffices H : ∀ k, k ≤ sN s → ∀ h1, Fr IM JM h h1 → Safe 5 m_M_likeliest (11, [.ref 88, .int (kI (lkF s (yD y) k).1), .int (kI (lkF s (yD y) k).2), .int (kI k)], [], h1) (fun w h' => Eqv w (some (.int (kI (lkF s (yD y) (sN s)).1))) ∧ Fr IM JM h h') by
    exact H 0 (by omega) _ (f88 h)
  refine down_ind (sN s) ?_ ?_
  · intro h1 e1
    have C1 := C0.fr e1
    refine s_M_likeliest_11 ?_
    simp (disch := omega) only [kd_88 C1.fix, M_cells_c C1, ix_lit, inB_lit, decide_true, Bool.true_or, Bool.or_true, true_and, and_true, kI_add, kI_sub, kI_mul, tn_add, Int.toNat_natCast, Int.reduceToNat, kI_le, kI_lt, kI_inj, decide_eq_true_eq, Bool.not_eq_true', decide_eq_false_iff_not, not_true_eq_false, not_false_eq_true, Classical.not_not, Bool.false_eq_true, if_true, if_false, z0, bI_k0, bI_k1, isB_b, isB_0, isB_1, kI_long, kd_stI, ln_stI, rv_stI, Int.le_refl]
    exact ⟨rfl, e1⟩
  · intro k hk ih h1 e1
    have C1 := C0.fr e1
    refine s_M_likeliest_11 ?_
    simp (disch := omega) only [kd_88 C1.fix, M_cells_c C1, ix_lit, inB_lit, decide_true, Bool.true_or, Bool.or_true, true_and, and_true, kI_add, kI_sub, kI_mul, tn_add, Int.toNat_natCast, Int.reduceToNat, kI_le, kI_lt, kI_inj, decide_eq_true_eq, Bool.not_eq_true', decide_eq_false_iff_not, not_true_eq_false, not_false_eq_true, Classical.not_not, Bool.false_eq_true, if_true, if_false, z0, bI_k0, bI_k1, isB_b, isB_0, isB_1, kI_long, kd_stI, ln_stI, rv_stI]
    rw [if_neg (by omega)]
    refine GI.use (M_oddsOf_g C1 hk) (by omega) (fun h2 e2 => ?_)
    have C2 := C1.fr e2
    have l1 := lkF_b s (yD y) k
    have l2 := oddF_le s k (yD y)
    have e : lkF s (yD y) (k + 1) = if (lkF s (yD y) k).2 < oddF s k (yD y) then ((k : Int), oddF s k (yD y)) else lkF s (yD y) k := rfl
    rw [e] at ih
    simp (disch := omega) only [ix_lit, inB_lit, decide_true, Bool.true_or, Bool.or_true, true_and, and_true, kI_add, kI_sub, kI_mul, tn_add, Int.toNat_natCast, Int.reduceToNat, kI_le, kI_lt, kI_inj, decide_eq_true_eq, Bool.not_eq_true', decide_eq_false_iff_not, not_true_eq_false, not_false_eq_true, Classical.not_not, Bool.false_eq_true, if_true, if_false, z0, bI_k0, bI_k1, isB_b, isB_0, isB_1, kI_long, kd_stI, ln_stI, rv_stI]
    by_cases q : (lkF s (yD y) k).2 < oddF s k (yD y)
    · simp only [if_pos q] at ih
      rw [if_pos (by omega)]
      refine ⟨kd_88 C2.fix, ?_⟩
      refine GI.use (M_oddsOf_g C2 hk) (by omega) (fun h3 e3 => ?_)
      exact ih h3 (e1.trans (e2.trans e3))
    · simp only [if_neg q] at ih
      rw [if_neg (by omega)]
      exact ih h2 (e1.trans e2)
def cntA (s : ST) (y : DY) (hs : List DY) (tp w : Int) : Int := if w = 0 then sR s else if w = 1 then sW s else if w = 2 then sN s else if w = 3 then sH s else if w = 4 then yD y else if w = 5 then lx (yL y) else if w = 6 then yX y else if w = 7 then (if foundF y = true then 1 else 0) else if w = 8 then oddsT s (yD y) else if w = 9 then hs.length else if w = 10 then tp else if w = 11 then sL s else -1
theorem cnt_cases (w : Int) : w = 0 ∨ w = 1 ∨ w = 2 ∨ w = 3 ∨ w = 4 ∨ w = 5 ∨ w = 6 ∨ w = 7 ∨ w = 8 ∨ w = 9 ∨ w = 10 ∨ w = 11 ∨ (¬ w = 0 ∧ ¬ w = 1 ∧ ¬ w = 2 ∧ ¬ w = 3 ∧ ¬ w = 4 ∧ ¬ w = 5 ∧ ¬ w = 6 ∧ ¬ w = 7 ∧ ¬ w = 8 ∧ ¬ w = 9 ∧ ¬ w = 10 ∧ ¬ w = 11) := by omega
theorem X_count_g {T : Nat → Nat} {s : ST} {p : Nat} {y : DY} {v : Int} {hs : List DY} {nx : Nat} {h : AH} (B : BX T s p y v hs nx h) {tp w : Int} (ht : ivA h 1 1 = kI tp) (w1 : -2147483648 ≤ w) (w2 : w ≤ 2147483647) : GI 5 m_X_count [.ref 1, .int (kI w)] h (kI (cntA s y hs tp w)) (FG T h) := by
  have F := B.F
  have S := B.S
  have hm := B.wy.m12 S.wf
  refine GIo (s_X_count_0 ?_)
  unfold cntA
  rcases cnt_cases w with rfl | rfl | rfl | rfl | rfl | rfl | rfl | rfl | rfl | rfl | rfl | rfl | ⟨z0', z1', z2', z3', z4', z5', z6', z7', z8', z9', z10', z11'⟩
  · simp (disch := omega) only [kd_1 F, B.r, S.k, ix_lit, inB_lit, decide_true, Bool.true_or, Bool.or_true, true_and, and_true, kI_add, kI_sub, kI_mul, tn_add, Int.toNat_natCast, Int.reduceToNat, kI_le, kI_lt, kI_inj, decide_eq_true_eq, Bool.not_eq_true', decide_eq_false_iff_not, not_true_eq_false, not_false_eq_true, Classical.not_not, Bool.false_eq_true, if_true, if_false, z0, bI_k0, bI_k1, isB_b, isB_0, isB_1, kI_long, kd_stI, ln_stI, rv_stI, Int.reduceEq, S.i0]
    exact ⟨rfl, FG_rfl T h⟩
  · simp (disch := omega) only [kd_1 F, B.r, S.k, ix_lit, inB_lit, decide_true, Bool.true_or, Bool.or_true, true_and, and_true, kI_add, kI_sub, kI_mul, tn_add, Int.toNat_natCast, Int.reduceToNat, kI_le, kI_lt, kI_inj, decide_eq_true_eq, Bool.not_eq_true', decide_eq_false_iff_not, not_true_eq_false, not_false_eq_true, Classical.not_not, Bool.false_eq_true, if_true, if_false, z0, bI_k0, bI_k1, isB_b, isB_0, isB_1, kI_long, kd_stI, ln_stI, rv_stI, Int.reduceEq, S.i1]
    exact ⟨rfl, FG_rfl T h⟩
  · simp (disch := omega) only [kd_1 F, B.r, S.k, ix_lit, inB_lit, decide_true, Bool.true_or, Bool.or_true, true_and, and_true, kI_add, kI_sub, kI_mul, tn_add, Int.toNat_natCast, Int.reduceToNat, kI_le, kI_lt, kI_inj, decide_eq_true_eq, Bool.not_eq_true', decide_eq_false_iff_not, not_true_eq_false, not_false_eq_true, Classical.not_not, Bool.false_eq_true, if_true, if_false, z0, bI_k0, bI_k1, isB_b, isB_0, isB_1, kI_long, kd_stI, ln_stI, rv_stI, Int.reduceEq, S.i2]
    exact ⟨rfl, FG_rfl T h⟩
  · simp (disch := omega) only [kd_1 F, B.r, S.k, ix_lit, inB_lit, decide_true, Bool.true_or, Bool.or_true, true_and, and_true, kI_add, kI_sub, kI_mul, tn_add, Int.toNat_natCast, Int.reduceToNat, kI_le, kI_lt, kI_inj, decide_eq_true_eq, Bool.not_eq_true', decide_eq_false_iff_not, not_true_eq_false, not_false_eq_true, Classical.not_not, Bool.false_eq_true, if_true, if_false, z0, bI_k0, bI_k1, isB_b, isB_0, isB_1, kI_long, kd_stI, ln_stI, rv_stI, Int.reduceEq, S.i4]
    exact ⟨rfl, FG_rfl T h⟩
  · simp (disch := omega) only [kd_1 F, rv_1_3 F, kd_8 F, ix_lit, inB_lit, decide_true, Bool.true_or, Bool.or_true, true_and, and_true, kI_add, kI_sub, kI_mul, tn_add, Int.toNat_natCast, Int.reduceToNat, kI_le, kI_lt, kI_inj, decide_eq_true_eq, Bool.not_eq_true', decide_eq_false_iff_not, not_true_eq_false, not_false_eq_true, Classical.not_not, Bool.false_eq_true, if_true, if_false, z0, bI_k0, bI_k1, isB_b, isB_0, isB_1, kI_long, kd_stI, ln_stI, rv_stI, Int.reduceEq, B.P.i0]
    exact ⟨rfl, FG_rfl T h⟩
  · simp (disch := omega) only [kd_1 F, rv_1_3 F, kd_8 F, ix_lit, inB_lit, decide_true, Bool.true_or, Bool.or_true, true_and, and_true, kI_add, kI_sub, kI_mul, tn_add, Int.toNat_natCast, Int.reduceToNat, kI_le, kI_lt, kI_inj, decide_eq_true_eq, Bool.not_eq_true', decide_eq_false_iff_not, not_true_eq_false, not_false_eq_true, Classical.not_not, Bool.false_eq_true, if_true, if_false, z0, bI_k0, bI_k1, isB_b, isB_0, isB_1, kI_long, kd_stI, ln_stI, rv_stI, Int.reduceEq, B.P.i1]
    exact ⟨rfl, FG_rfl T h⟩
  · simp (disch := omega) only [kd_1 F, rv_1_3 F, kd_8 F, ix_lit, inB_lit, decide_true, Bool.true_or, Bool.or_true, true_and, and_true, kI_add, kI_sub, kI_mul, tn_add, Int.toNat_natCast, Int.reduceToNat, kI_le, kI_lt, kI_inj, decide_eq_true_eq, Bool.not_eq_true', decide_eq_false_iff_not, not_true_eq_false, not_false_eq_true, Classical.not_not, Bool.false_eq_true, if_true, if_false, z0, bI_k0, bI_k1, isB_b, isB_0, isB_1, kI_long, kd_stI, ln_stI, rv_stI, Int.reduceEq, B.P.i2]
    exact ⟨rfl, FG_rfl T h⟩
  · simp (disch := omega) only [kd_1 F, rv_1_3 F, kd_8 F, ix_lit, inB_lit, decide_true, Bool.true_or, Bool.or_true, true_and, and_true, kI_add, kI_sub, kI_mul, tn_add, Int.toNat_natCast, Int.reduceToNat, kI_le, kI_lt, kI_inj, decide_eq_true_eq, Bool.not_eq_true', decide_eq_false_iff_not, not_true_eq_false, not_false_eq_true, Classical.not_not, Bool.false_eq_true, if_true, if_false, z0, bI_k0, bI_k1, isB_b, isB_0, isB_1, kI_long, kd_stI, ln_stI, rv_stI, Int.reduceEq, Pg_isFound_c F PG8 B.P S.wf B.wy]
    by_cases z : foundF y = true
    · rw [if_neg (fun w => w z), if_pos z]
      exact ⟨rfl, FG_rfl T h⟩
    · rw [if_pos z, if_neg z]
      exact ⟨rfl, FG_rfl T h⟩
  · simp (disch := omega) only [kd_1 F, B.r, S.k, rv_1_3 F, kd_8 F, ix_lit, inB_lit, decide_true, Bool.true_or, Bool.or_true, true_and, and_true, kI_add, kI_sub, kI_mul, tn_add, Int.toNat_natCast, Int.reduceToNat, kI_le, kI_lt, kI_inj, decide_eq_true_eq, Bool.not_eq_true', decide_eq_false_iff_not, not_true_eq_false, not_false_eq_true, Classical.not_not, Bool.false_eq_true, if_true, if_false, z0, bI_k0, bI_k1, isB_b, isB_0, isB_1, kI_long, kd_stI, ln_stI, rv_stI, Int.reduceEq, B.P.i0]
    exact GI.use (Sh_allOdds_g S hm) (by omega) (fun h' e => ⟨rfl, e⟩)
  · simp (disch := omega) only [kd_1 F, rv_1_6 F, kd_14 F, ix_lit, inB_lit, decide_true, Bool.true_or, Bool.or_true, true_and, and_true, kI_add, kI_sub, kI_mul, tn_add, Int.toNat_natCast, Int.reduceToNat, kI_le, kI_lt, kI_inj, decide_eq_true_eq, Bool.not_eq_true', decide_eq_false_iff_not, not_true_eq_false, not_false_eq_true, Classical.not_not, Bool.false_eq_true, if_true, if_false, z0, bI_k0, bI_k1, isB_b, isB_0, isB_1, kI_long, kd_stI, ln_stI, rv_stI, Int.reduceEq, B.H.i2]
    exact ⟨rfl, FG_rfl T h⟩
  · simp (disch := omega) only [kd_1 F, ix_lit, inB_lit, decide_true, Bool.true_or, Bool.or_true, true_and, and_true, kI_add, kI_sub, kI_mul, tn_add, Int.toNat_natCast, Int.reduceToNat, kI_le, kI_lt, kI_inj, decide_eq_true_eq, Bool.not_eq_true', decide_eq_false_iff_not, not_true_eq_false, not_false_eq_true, Classical.not_not, Bool.false_eq_true, if_true, if_false, z0, bI_k0, bI_k1, isB_b, isB_0, isB_1, kI_long, kd_stI, ln_stI, rv_stI, Int.reduceEq, ht]
    exact ⟨rfl, FG_rfl T h⟩
  · simp (disch := omega) only [kd_1 F, B.r, S.k, ix_lit, inB_lit, decide_true, Bool.true_or, Bool.or_true, true_and, and_true, kI_add, kI_sub, kI_mul, tn_add, Int.toNat_natCast, Int.reduceToNat, kI_le, kI_lt, kI_inj, decide_eq_true_eq, Bool.not_eq_true', decide_eq_false_iff_not, not_true_eq_false, not_false_eq_true, Classical.not_not, Bool.false_eq_true, if_true, if_false, z0, bI_k0, bI_k1, isB_b, isB_0, isB_1, kI_long, kd_stI, ln_stI, rv_stI, Int.reduceEq, S.i5]
    exact ⟨rfl, FG_rfl T h⟩
  · simp (disch := omega) only [ix_lit, inB_lit, decide_true, Bool.true_or, Bool.or_true, true_and, and_true, kI_add, kI_sub, kI_mul, tn_add, Int.toNat_natCast, Int.reduceToNat, kI_le, kI_lt, kI_inj, decide_eq_true_eq, Bool.not_eq_true', decide_eq_false_iff_not, not_true_eq_false, not_false_eq_true, Classical.not_not, Bool.false_eq_true, if_true, if_false, z0, bI_k0, bI_k1, isB_b, isB_0, isB_1, kI_long, kd_stI, ln_stI, rv_stI, z0', z1', z2', z3', z4', z5', z6', z7', z8', z9', z10', z11']
    exact ⟨rfl, FG_rfl T h⟩
theorem M_count_g {s : ST} {y : DY} {hs : List DY} {h : AH} (B0 : BM s y hs h) {tp w : Int} (ht : ivA h 88 5 = kI tp) (w1 : -2147483648 ≤ w) (w2 : w ≤ 2147483647) : GI 7 m_M_count [.ref 88, .int (kI w)] h (kI (cntA s y hs tp w)) (Fr IM JM h) := by
  have e0 := f88 h
  have B := B0.im e0
  have C := B.M
  have F := C.fix
  have F0 := B0.M.fix
  have hl := C.wy.l12 C.wf
  have ht' : ivA (stI h 88 0 (kI 0)) 88 5 = kI tp := by rw [iv_stI, if_neg (by omega)]; exact ht
  refine GIo (s_M_count_0 ?_)
  unfold cntA
  rcases cnt_cases w with rfl | rfl | rfl | rfl | rfl | rfl | rfl | rfl | rfl | rfl | rfl | rfl | ⟨z0', z1', z2', z3', z4', z5', z6', z7', z8', z9', z10', z11'⟩
  · simp (disch := omega) only [kd_88 F0, kd_88 F, rv_88_1 F, kd_89 F, ln_89 F, ix_lit, inB_lit, decide_true, Bool.true_or, true_and, Int.reduceToNat, kI_inj, decide_eq_true_eq, Int.reduceEq, if_true, if_false, C.i1]
    exact ⟨rfl, e0⟩
  · simp (disch := omega) only [kd_88 F0, kd_88 F, rv_88_1 F, kd_89 F, ln_89 F, ix_lit, inB_lit, decide_true, Bool.true_or, true_and, Int.reduceToNat, kI_inj, decide_eq_true_eq, Int.reduceEq, if_true, if_false, C.i2]
    exact ⟨rfl, e0⟩
  · simp (disch := omega) only [kd_88 F0, kd_88 F, decide_true, true_and, kI_inj, decide_eq_true_eq, Int.reduceEq, if_true, if_false, M_cells_c C]
    exact ⟨rfl, e0⟩
  · simp (disch := omega) only [kd_88 F0, kd_88 F, rv_88_1 F, kd_89 F, ln_89 F, ix_lit, inB_lit, decide_true, Bool.true_or, true_and, Int.reduceToNat, kI_inj, decide_eq_true_eq, Int.reduceEq, if_true, if_false, C.i3]
    exact ⟨rfl, e0⟩
  · simp (disch := omega) only [kd_88 F0, kd_88 F, rv_88_1 F, kd_89 F, ln_89 F, ix_lit, inB_lit, decide_true, Bool.true_or, true_and, Int.reduceToNat, kI_inj, decide_eq_true_eq, Int.reduceEq, if_true, if_false, C.i22]
    exact ⟨rfl, e0⟩
  · simp (disch := omega) only [kd_88 F0, kd_88 F, rv_88_1 F, kd_89 F, ln_89 F, ix_lit, inB_lit, decide_true, Bool.true_or, true_and, Int.reduceToNat, kI_inj, decide_eq_true_eq, Int.reduceEq, if_true, if_false, C.i23, Bool.not_eq_true', decide_eq_false_iff_not]
    unfold lx
    by_cases z : yL y = 12
    · rw [if_neg (by omega), if_pos z]
      exact ⟨rfl, e0⟩
    · rw [if_pos (by omega), if_neg z]
      exact ⟨rfl, e0⟩
  · simp (disch := omega) only [kd_88 F0, kd_88 F, rv_88_1 F, kd_89 F, ln_89 F, ix_lit, inB_lit, decide_true, Bool.true_or, true_and, Int.reduceToNat, kI_inj, decide_eq_true_eq, Int.reduceEq, if_true, if_false, C.i24]
    exact ⟨rfl, e0⟩
  · simp (disch := omega) only [kd_88 F0, kd_88 F, decide_true, true_and, kI_inj, decide_eq_true_eq, Int.reduceEq, if_true, if_false, M_isFound_c C, z0, bI_k0]
    by_cases z : foundF y = true
    · rw [if_neg (fun w => w z), if_pos z]
      exact ⟨rfl, e0⟩
    · rw [if_pos z, if_neg z]
      exact ⟨rfl, e0⟩
  · simp (disch := omega) only [kd_88 F0, kd_88 F, decide_true, true_and, kI_inj, decide_eq_true_eq, Int.reduceEq, if_true, if_false]
    exact GI.use (M_oddsAll_g C) (by omega) (fun h' e => ⟨rfl, e0.trans e⟩)
  · simp (disch := omega) only [kd_88 F0, kd_88 F, rv_88_1 F, kd_89 F, ln_89 F, ix_lit, inB_lit, decide_true, Bool.true_or, true_and, Int.reduceToNat, kI_inj, decide_eq_true_eq, Int.reduceEq, if_true, if_false, B.H.i29]
    exact ⟨rfl, e0⟩
  · simp (disch := omega) only [kd_88 F0, kd_88 F, decide_true, true_and, kI_inj, decide_eq_true_eq, Int.reduceEq, if_true, if_false, ht']
    exact ⟨rfl, e0⟩
  · simp (disch := omega) only [kd_88 F0, kd_88 F, rv_88_1 F, kd_89 F, ln_89 F, ix_lit, inB_lit, decide_true, Bool.true_or, true_and, Int.reduceToNat, kI_inj, decide_eq_true_eq, Int.reduceEq, if_true, if_false, C.i0]
    exact ⟨rfl, e0⟩
  · simp (disch := omega) only [kd_88 F0, decide_true, true_and, kI_inj, decide_eq_true_eq, if_true, if_false, z0', z1', z2', z3', z4', z5', z6', z7', z8', z9', z10', z11']
    exact ⟨rfl, e0⟩
