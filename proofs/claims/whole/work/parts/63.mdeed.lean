/-! the reference's deeds -/
def dv (y : DY) (k : Nat) : Int32 := if k = 0 then kI (yD y) else if k = 1 then kI (yL y) else if k = 2 then kI (yX y) else kI (yB y (k - 3))
theorem MDy_dv {y : DY} {b : Nat} {h : AH} : MDy y b h ↔ ∀ k, k < 7 → ivA h 89 (b + 22 + k) = dv y k := by
  constructor
  · rintro ⟨h0, h1, h2, h3⟩ k hk
    unfold dv
    by_cases q0 : k = 0
    · rw [if_pos q0, q0]; exact h0
    · rw [if_neg q0]
      by_cases q1 : k = 1
      · rw [if_pos q1, q1]; exact h1
      · rw [if_neg q1]
        by_cases q2 : k = 2
        · rw [if_pos q2, q2]; exact h2
        · rw [if_neg q2]
          have := h3 (k - 3) (by omega)
          rw [← this]
          congr 1
          omega
  · intro H
    exact ⟨H 0 (by omega), H 1 (by omega), H 2 (by omega), fun k hk => by
      have := H (k + 3) (by omega)
      rw [show b + 25 + k = b + 22 + (k + 3) by omega, this]
      unfold dv
      rw [if_neg (by omega), if_neg (by omega), if_neg (by omega)]
      rfl⟩
theorem M_isFound_c {s : ST} {y : DY} {d : Nat} {h : AH} (C : MC s y h) (hd : 2 ≤ d) {K : Int32 → AH → Prop} : CallI d m_M_isFound [.ref 88] h K ↔ K (bI32 (foundF y = true)) h := by
  refine Ret.I (d := 2) (ret_of (s_M_isFound_0 ?_)) hd
  have F := C.fix
  have x1 := C.wy.2.2.1
  have x2 := C.wy.2.2.2.1
  have n2 := C.wf.n12
  have hm := C.wy.m12 C.wf
  unfold foundF
  by_cases q : yX y = -1
  · simp (disch := omega) only [kd_88 F, rv_88_1 F, kd_89 F, ln_89 F, ix_lit, inB_lit, decide_true, Bool.true_or, Bool.or_true, true_and, and_true, kI_add, kI_sub, kI_mul, tn_add, Int.toNat_natCast, Int.reduceToNat, kI_le, kI_lt, kI_inj, decide_eq_true_eq, Bool.not_eq_true', decide_eq_false_iff_not, not_true_eq_false, not_false_eq_true, Classical.not_not, Bool.false_eq_true, if_true, if_false, z0, bI_k0, bI_k1, isB_b, isB_0, isB_1, kI_long, kd_stI, ln_stI, rv_stI, C.i24, q]
    (all_goals first | exact ⟨rfl, rfl⟩ | exact ⟨rfl, trivial⟩ | rfl | trivial)
  · obtain ⟨n, hn⟩ := Int.eq_ofNat_of_zero_le (show 0 ≤ yX y by omega)
    have C2 := C.i24
    rw [hn] at C2 q x2 ⊢
    have qb : ((n : Int) != -1) = true := by simpa using q
    simp (disch := omega) only [kd_88 F, rv_88_1 F, kd_89 F, ln_89 F, ix_lit, inB_lit, decide_true, Bool.true_or, Bool.or_true, true_and, and_true, kI_add, kI_sub, kI_mul, tn_add, Int.toNat_natCast, Int.reduceToNat, kI_le, kI_lt, kI_inj, decide_eq_true_eq, Bool.not_eq_true', decide_eq_false_iff_not, not_true_eq_false, not_false_eq_true, Classical.not_not, Bool.false_eq_true, if_true, if_false, z0, bI_k0, bI_k1, isB_b, isB_0, isB_1, kI_long, kd_stI, ln_stI, rv_stI, C2, C.i22, q, M_isIn_c, qb, Bool.true_and]
    unfold bI32
    by_cases z : (yD y).testBit n = true
    · rw [if_neg (fun w => w z), if_pos z]
      (all_goals first | exact ⟨rfl, rfl⟩ | exact ⟨rfl, trivial⟩ | rfl | trivial)
    · rw [if_pos z, if_neg z]
      (all_goals first | exact ⟨rfl, rfl⟩ | exact ⟨rfl, trivial⟩ | rfl | trivial)
theorem M_whyStroke_g {s : ST} {y : DY} {h : AH} (C : MC s y h) {a c : Int} (a1 : -2147483648 ≤ a) (a2 : a ≤ 2147483647) (c1 : -2147483648 ≤ c) (c2 : c ≤ 2147483647) : GI 6 m_M_whyStroke [.ref 88, .long (kJ a), .long (kJ c)] h (kI (whyS s y a c)) (Fr IM JM h) := by
  have F := C.fix
  have n2 := C.wf.n12
  have h4 := C.wf.2.2.2.2.2.1
  have hm := C.wy.m12 C.wf
  refine GIo (s_M_whyStroke_0 ?_)
  unfold whyS
  by_cases qa : 0 ≤ a ∧ a < sH s
  · by_cases qc : 0 ≤ c ∧ c < sN s
    · obtain ⟨hd, rfl⟩ := Int.eq_ofNat_of_zero_le qa.1
      obtain ⟨c, rfl⟩ := Int.eq_ofNat_of_zero_le qc.1
      rw [if_pos ⟨qa, qc⟩]
      simp (disch := omega) only [kd_88 F, rv_88_1 F, kd_89 F, ln_89 F, ix_lit, inB_lit, decide_true, Bool.true_or, Bool.or_true, true_and, and_true, kI_add, kI_sub, kI_mul, tn_add, Int.toNat_natCast, Int.reduceToNat, kI_le, kI_lt, kI_inj, decide_eq_true_eq, Bool.not_eq_true', decide_eq_false_iff_not, not_true_eq_false, not_false_eq_true, Classical.not_not, Bool.false_eq_true, if_true, if_false, z0, bI_k0, bI_k1, isB_b, isB_0, isB_1, kI_long, kd_stI, ln_stI, rv_stI, M_isHand_c C, M_isCell_c C, qa, qc, M_isFound_c C, C.i22, C.i23, kJ_int, M_isIn_c]
      by_cases q1 : foundF y = true
      · rw [if_pos q1, if_pos (Or.inl q1)]
        exact ⟨rfl, Fr_rfl _ _ _⟩
      · rw [if_neg q1]
        by_cases q2 : (yD y).testBit c = true
        · rw [if_neg (fun w => w q2), if_pos (Or.inr q2)]
          exact ⟨rfl, Fr_rfl _ _ _⟩
        · rw [if_pos q2, if_neg (fun w => w.elim q1 q2)]
          refine GI.use (M_mayDraw_g C (by omega) (by omega) hm C.wy.2.1) (by omega) (fun h8 e8 => ?_)
          simp (disch := omega) only [ix_lit, inB_lit, decide_true, Bool.true_or, Bool.or_true, true_and, and_true, kI_add, kI_sub, kI_mul, tn_add, Int.toNat_natCast, Int.reduceToNat, kI_le, kI_lt, kI_inj, decide_eq_true_eq, Bool.not_eq_true', decide_eq_false_iff_not, not_true_eq_false, not_false_eq_true, Classical.not_not, Bool.false_eq_true, if_true, if_false, z0, bI_k0, bI_k1, isB_b, isB_0, isB_1, kI_long, kd_stI, ln_stI, rv_stI]
          by_cases z : mayF s hd (yB y hd) c (yD y) (yL y) = true
          · rw [if_neg (fun w => w z), if_pos z]
            exact ⟨rfl, e8⟩
          · rw [if_pos z, if_neg z]
            exact ⟨rfl, e8⟩
    · rw [if_neg (fun w => qc w.2)]
      simp (disch := omega) only [kd_88 F, rv_88_1 F, kd_89 F, ln_89 F, ix_lit, inB_lit, decide_true, Bool.true_or, Bool.or_true, true_and, and_true, kI_add, kI_sub, kI_mul, tn_add, Int.toNat_natCast, Int.reduceToNat, kI_le, kI_lt, kI_inj, decide_eq_true_eq, Bool.not_eq_true', decide_eq_false_iff_not, not_true_eq_false, not_false_eq_true, Classical.not_not, Bool.false_eq_true, if_true, if_false, z0, bI_k0, bI_k1, isB_b, isB_0, isB_1, kI_long, kd_stI, ln_stI, rv_stI, M_isHand_c C, M_isCell_c C, qa, qc]
      exact ⟨rfl, Fr_rfl _ _ _⟩
  · rw [if_neg (fun w => qa w.1)]
    simp (disch := omega) only [kd_88 F, rv_88_1 F, kd_89 F, ln_89 F, ix_lit, inB_lit, decide_true, Bool.true_or, Bool.or_true, true_and, and_true, kI_add, kI_sub, kI_mul, tn_add, Int.toNat_natCast, Int.reduceToNat, kI_le, kI_lt, kI_inj, decide_eq_true_eq, Bool.not_eq_true', decide_eq_false_iff_not, not_true_eq_false, not_false_eq_true, Classical.not_not, Bool.false_eq_true, if_true, if_false, z0, bI_k0, bI_k1, isB_b, isB_0, isB_1, kI_long, kd_stI, ln_stI, rv_stI, M_isHand_c C, qa]
    exact ⟨rfl, Fr_rfl _ _ _⟩
theorem M_whyRub_c {s : ST} {y : DY} {d : Nat} {h : AH} (C : MC s y h) (hd : 3 ≤ d) {c : Int} (c1 : -2147483648 ≤ c) (c2 : c ≤ 2147483647) {K : Int32 → AH → Prop} : CallI d m_M_whyRub [.ref 88, .long (kJ c)] h K ↔ K (kI (whyR s y c)) h := by
  refine Ret.I (d := 3) (ret_of (s_M_whyRub_0 ?_)) hd
  have F := C.fix
  have n2 := C.wf.n12
  have hm := C.wy.m12 C.wf
  unfold whyR
  by_cases qc : 0 ≤ c ∧ c < sN s
  · obtain ⟨c, rfl⟩ := Int.eq_ofNat_of_zero_le qc.1
    rw [if_pos qc]
    simp (disch := omega) only [kd_88 F, rv_88_1 F, kd_89 F, ln_89 F, ix_lit, inB_lit, decide_true, Bool.true_or, Bool.or_true, true_and, and_true, kI_add, kI_sub, kI_mul, tn_add, Int.toNat_natCast, Int.reduceToNat, kI_le, kI_lt, kI_inj, decide_eq_true_eq, Bool.not_eq_true', decide_eq_false_iff_not, not_true_eq_false, not_false_eq_true, Classical.not_not, Bool.false_eq_true, if_true, if_false, z0, bI_k0, bI_k1, isB_b, isB_0, isB_1, kI_long, kd_stI, ln_stI, rv_stI, M_isCell_c C, qc, M_isFound_c C, C.i22, kJ_int, M_isIn_c]
    by_cases q1 : foundF y = true
    · rw [if_pos q1, if_pos (Or.inl q1)]
      (all_goals first | exact ⟨rfl, rfl⟩ | exact ⟨rfl, trivial⟩ | rfl | trivial)
    · rw [if_neg q1]
      by_cases q2 : (yD y).testBit c = true
      · rw [if_pos q2, if_neg (fun w => w.elim q1 (fun w => w q2))]
        (all_goals first | exact ⟨rfl, rfl⟩ | exact ⟨rfl, trivial⟩ | rfl | trivial)
      · rw [if_neg q2, if_pos (Or.inr q2)]
        (all_goals first | exact ⟨rfl, rfl⟩ | exact ⟨rfl, trivial⟩ | rfl | trivial)
  · rw [if_neg qc]
    simp (disch := omega) only [kd_88 F, rv_88_1 F, kd_89 F, ln_89 F, ix_lit, inB_lit, decide_true, Bool.true_or, Bool.or_true, true_and, and_true, kI_add, kI_sub, kI_mul, tn_add, Int.toNat_natCast, Int.reduceToNat, kI_le, kI_lt, kI_inj, decide_eq_true_eq, Bool.not_eq_true', decide_eq_false_iff_not, not_true_eq_false, not_false_eq_true, Classical.not_not, Bool.false_eq_true, if_true, if_false, z0, bI_k0, bI_k1, isB_b, isB_0, isB_1, kI_long, kd_stI, ln_stI, rv_stI, M_isCell_c C, qc]
    (all_goals first | exact ⟨rfl, rfl⟩ | exact ⟨rfl, trivial⟩ | rfl | trivial)
theorem M_whyHide_c {s : ST} {y : DY} {d : Nat} {h : AH} (C : MC s y h) (hd : 3 ≤ d) {c : Int} (c1 : -2147483648 ≤ c) (c2 : c ≤ 2147483647) {K : Int32 → AH → Prop} : CallI d m_M_whyHide [.ref 88, .long (kJ c)] h K ↔ K (kI (whyH s y c)) h := by
  refine Ret.I (d := 3) (ret_of (s_M_whyHide_0 ?_)) hd
  have F := C.fix
  have n2 := C.wf.n12
  have hm := C.wy.m12 C.wf
  unfold whyH
  by_cases qc : 0 ≤ c ∧ c < sN s
  · obtain ⟨c, rfl⟩ := Int.eq_ofNat_of_zero_le qc.1
    rw [if_pos qc]
    simp (disch := omega) only [kd_88 F, rv_88_1 F, kd_89 F, ln_89 F, ix_lit, inB_lit, decide_true, Bool.true_or, Bool.or_true, true_and, and_true, kI_add, kI_sub, kI_mul, tn_add, Int.toNat_natCast, Int.reduceToNat, kI_le, kI_lt, kI_inj, decide_eq_true_eq, Bool.not_eq_true', decide_eq_false_iff_not, not_true_eq_false, not_false_eq_true, Classical.not_not, Bool.false_eq_true, if_true, if_false, z0, bI_k0, bI_k1, isB_b, isB_0, isB_1, kI_long, kd_stI, ln_stI, rv_stI, M_isCell_c C, qc, M_isFound_c C, C.i22, kJ_int, M_isIn_c]
    by_cases q1 : foundF y = true
    · rw [if_pos q1, if_pos (Or.inl q1)]
      (all_goals first | exact ⟨rfl, rfl⟩ | exact ⟨rfl, trivial⟩ | rfl | trivial)
    · rw [if_neg q1]
      by_cases q2 : (yD y).testBit c = true
      · rw [if_neg (fun w => w q2), if_pos (Or.inr q2)]
        (all_goals first | exact ⟨rfl, rfl⟩ | exact ⟨rfl, trivial⟩ | rfl | trivial)
      · rw [if_pos q2, if_neg (fun w => w.elim q1 q2)]
        (all_goals first | exact ⟨rfl, rfl⟩ | exact ⟨rfl, trivial⟩ | rfl | trivial)
  · rw [if_neg qc]
    simp (disch := omega) only [kd_88 F, rv_88_1 F, kd_89 F, ln_89 F, ix_lit, inB_lit, decide_true, Bool.true_or, Bool.or_true, true_and, and_true, kI_add, kI_sub, kI_mul, tn_add, Int.toNat_natCast, Int.reduceToNat, kI_le, kI_lt, kI_inj, decide_eq_true_eq, Bool.not_eq_true', decide_eq_false_iff_not, not_true_eq_false, not_false_eq_true, Classical.not_not, Bool.false_eq_true, if_true, if_false, z0, bI_k0, bI_k1, isB_b, isB_0, isB_1, kI_long, kd_stI, ln_stI, rv_stI, M_isCell_c C, qc]
    (all_goals first | exact ⟨rfl, rfl⟩ | exact ⟨rfl, trivial⟩ | rfl | trivial)
/-- the reference's cells that a deed changes -/
def ID (a k : Nat) : Prop := IM a k ∨ (a = 89 ∧ 22 ≤ k ∧ k ≤ 28)
theorem MSt_ext2 {s : ST} {b : Nat} {h h' : AH} (H : MSt s b h) (e : ∀ k, (b ≤ k ∧ k < b + 22) ∨ (b + 101 ≤ k ∧ k < b + 1001) → ivA h' 89 k = ivA h 89 k) : MSt s b h' := by
  have lw : ∀ code law, law ≤ 1 → MLaw code law b h → MLaw code law b h' := by
    intro code law hl L
    refine ⟨by rw [e _ (by omega)]; exact L.1, fun hne => ?_⟩
    obtain ⟨fr, h1, h2, h3, h4⟩ := L.2 hne
    exact ⟨fr, h1, by rw [e _ (by omega)]; exact h2, by rw [e _ (by omega)]; exact h3, fun k hk => by rw [e _ (by omega)]; exact h4 k hk⟩
  refine ⟨by rw [e _ (by omega)]; exact H.1, by rw [e _ (by omega)]; exact H.2.1, by rw [e _ (by omega)]; exact H.2.2.1, by rw [e _ (by omega)]; exact H.2.2.2.1, fun k hk => by rw [e _ (by omega)]; exact H.2.2.2.2.1 k hk, lw _ _ (by omega) H.2.2.2.2.2.1, lw _ _ (by omega) H.2.2.2.2.2.2⟩
theorem MC.to {s : ST} {y y' : DY} {h h' : AH} {I J : Nat → Nat → Prop} (C : MC s y h) (e : Fr I J h h') (hi : ∀ k, (k < 22 ∨ 101 ≤ k) → ¬ I 89 k) (wy : WFY s y') (D : MDy y' 0 h') : MC s y' h' := ⟨e.fix C.1, C.2.1, wy, MSt_ext2 C.2.2.2.1 (fun k hk => e.2.2.2.2.2.1 89 k (hi k (by omega))), D⟩
/-- what a deed leaves: frame and state -/
def PostM (s : ST) (y' : DY) (h h' : AH) : Prop := Fr ID JM h h' ∧ MC s y' h'
theorem M_draws_g {s : ST} {y : DY} {h : AH} (C : MC s y h) {c : Nat} (hc : c < sN s) : GV 1 m_M_draws [.ref 88, .int (kI c)] h (PostM s (dDraw y c) h) := by
  have F := C.fix
  have n2 := C.wf.n12
  refine GVo (s_M_draws_0 ?_)
  simp (disch := omega) only [kd_88 F, rv_88_1 F, kd_89 F, ln_89 F, ix_lit, inB_lit, decide_true, Bool.true_or, Bool.or_true, true_and, and_true, kI_add, kI_sub, kI_mul, tn_add, Int.toNat_natCast, Int.reduceToNat, kI_le, kI_lt, kI_inj, decide_eq_true_eq, Bool.not_eq_true', decide_eq_false_iff_not, not_true_eq_false, not_false_eq_true, Classical.not_not, Bool.false_eq_true, if_true, if_false, z0, bI_k0, bI_k1, isB_b, isB_0, isB_1, kI_long, kd_stI, ln_stI, rv_stI, C.i22, kI_shl1, kI_or]
  have e : Fr ID JM h (stI (stI h 89 22 (kI ((yD y ||| 2 ^ c : Nat) : Int))) 89 23 (kI c)) := ((Fr_rfl _ _ _).stI (Or.inr (by omega)) _).stI (Or.inr (by omega)) _
  refine ⟨rfl, e, C.to e (fun k hk w => ?_) (C.wy.draw hc) ⟨?_, ?_, ?_, fun k hk => ?_⟩⟩
  · unfold ID IM at w; omega
  · rw [iv_stI, if_neg (by omega), iv_stI, if_pos ⟨rfl, rfl⟩]; rfl
  · rw [iv_stI, if_pos ⟨rfl, rfl⟩]; rfl
  · rw [iv_stI, if_neg (by omega), iv_stI, if_neg (by omega)]; exact C.i24
  · rw [iv_stI, if_neg (by omega), iv_stI, if_neg (by omega)]; exact C.2.2.2.2.2.2.2 k hk
theorem M_rubs_g {s : ST} {y : DY} {h : AH} (C : MC s y h) {c : Nat} (hc : c < sN s) : GV 1 m_M_rubs [.ref 88, .int (kI c)] h (PostM s (dRub y c) h) := by
  have F := C.fix
  have n2 := C.wf.n12
  have hl := C.wy.l12 C.wf
  refine GVo (s_M_rubs_0 ?_)
  have fin : ∀ l : Nat, l = (if yL y = c then 12 else yL y) → PostM s (dRub y c) h (stI (stI h 89 22 (kI ((dif (yD y) (2 ^ c) : Nat) : Int))) 89 23 (kI l)) := by
    intro l el
    have e : Fr ID JM h (stI (stI h 89 22 (kI ((dif (yD y) (2 ^ c) : Nat) : Int))) 89 23 (kI l)) := ((Fr_rfl _ _ _).stI (Or.inr (by omega)) _).stI (Or.inr (by omega)) _
    refine ⟨e, C.to e (fun k hk w => ?_) (C.wy.rub c) ⟨?_, ?_, ?_, fun k hk => ?_⟩⟩
    · unfold ID IM at w; omega
    · rw [iv_stI, if_neg (by omega), iv_stI, if_pos ⟨rfl, rfl⟩]; rfl
    · rw [iv_stI, if_pos ⟨rfl, rfl⟩, el]; rfl
    · rw [iv_stI, if_neg (by omega), iv_stI, if_neg (by omega)]; exact C.i24
    · rw [iv_stI, if_neg (by omega), iv_stI, if_neg (by omega)]; exact C.2.2.2.2.2.2.2 k hk
  by_cases q : yL y = c
  · rw [if_pos q] at fin
    simp (disch := omega) only [kd_88 F, rv_88_1 F, kd_89 F, ln_89 F, ix_lit, inB_lit, decide_true, Bool.true_or, Bool.or_true, true_and, and_true, kI_add, kI_sub, kI_mul, tn_add, Int.toNat_natCast, Int.reduceToNat, kI_le, kI_lt, kI_inj, decide_eq_true_eq, Bool.not_eq_true', decide_eq_false_iff_not, not_true_eq_false, not_false_eq_true, Classical.not_not, Bool.false_eq_true, if_true, if_false, z0, bI_k0, bI_k1, isB_b, isB_0, isB_1, kI_long, kd_stI, ln_stI, rv_stI, C.i22, C.i23, kI_shl1, kI_dif, iv_stI, Nat.reduceEqDiff, and_false, q]
    exact ⟨rfl, fin 12 rfl⟩
  · rw [if_neg q] at fin
    have q' : ¬ (yL y : Int) = (c : Int) := by omega
    simp (disch := omega) only [kd_88 F, rv_88_1 F, kd_89 F, ln_89 F, ix_lit, inB_lit, decide_true, Bool.true_or, Bool.or_true, true_and, and_true, kI_add, kI_sub, kI_mul, tn_add, Int.toNat_natCast, Int.reduceToNat, kI_le, kI_lt, kI_inj, decide_eq_true_eq, Bool.not_eq_true', decide_eq_false_iff_not, not_true_eq_false, not_false_eq_true, Classical.not_not, Bool.false_eq_true, if_true, if_false, z0, bI_k0, bI_k1, isB_b, isB_0, isB_1, kI_long, kd_stI, ln_stI, rv_stI, C.i22, C.i23, kI_shl1, kI_dif, iv_stI, Nat.reduceEqDiff, and_false, q']
    exact ⟨rfl, fin _ rfl⟩
theorem st_X {s : ST} {y : DY} {h : AH} (C : MC s y h) {c : Nat} (hc : c < sN s) : PostM s (dHide y c) h (stI h 89 24 (kI c)) := by
  have e : Fr ID JM h (stI h 89 24 (kI c)) := (Fr_rfl _ _ _).stI (Or.inr (by omega)) _
  refine ⟨e, C.to e (fun k hk w => ?_) (C.wy.hide hc) ⟨?_, ?_, ?_, fun k hk => ?_⟩⟩
  · unfold ID IM at w; omega
  · rw [iv_stI, if_neg (by omega)]; exact C.i22
  · rw [iv_stI, if_neg (by omega)]; exact C.i23
  · rw [iv_stI, if_pos ⟨rfl, rfl⟩]; rfl
  · rw [iv_stI, if_neg (by omega)]; exact C.2.2.2.2.2.2.2 k hk
theorem st_B {s : ST} {y : DY} {h : AH} (C : MC s y h) {a n : Nat} (ha : a < 4) (hn : n ≤ 9) : PostM s (dHab y a n) h (stI h 89 (25 + a) (kI n)) := by
  have e : Fr ID JM h (stI h 89 (25 + a) (kI n)) := (Fr_rfl _ _ _).stI (Or.inr (by omega)) _
  refine ⟨e, C.to e (fun k hk w => ?_) (C.wy.hab hn) ⟨?_, ?_, ?_, fun k hk => ?_⟩⟩
  · unfold ID IM at w; omega
  · rw [iv_stI, if_neg (by omega)]; exact C.i22
  · rw [iv_stI, if_neg (by omega)]; exact C.i23
  · rw [iv_stI, if_neg (by omega)]; exact C.i24
  · rw [iv_stI]
    show _ = kI ((if k = a then n else yB y k : Nat) : Int)
    by_cases q : k = a
    · rw [if_pos (by omega), if_pos q]
    · rw [if_neg (by omega), if_neg q]
      exact C.2.2.2.2.2.2.2 k hk
theorem M_whyNot_g {s : ST} {y : DY} {h : AH} (C : MC s y h) {n : Int} (n1 : -9223372036854775808 ≤ n) (n2 : n ≤ 9223372036854775807) : GI 7 m_M_whyNot [.ref 88, .long (kJ n)] h (kI (whyD s y n)) (Fr IM JM h) := by
  have F := C.fix
  have h4 := C.wf.2.2.2.2.2.1
  refine GIo (s_M_whyNot_0 ?_)
  unfold whyD
  by_cases q1 : 0 ≤ n ∧ n < 400
  · rw [if_pos q1]
    have p1 : (0 ≤ n ∧ n ≤ 399) = True := eq_true (by omega)
    have d1 : 0 ≤ n / 100 ∧ n / 100 < 100 := by omega
    have d2 : 0 ≤ n % 100 ∧ n % 100 < 100 := by omega
    have er : kJ n - kJ (n / 100) * kJ 100 = kJ (n % 100) := by rw [kJ_mul, kJ_sub, rem_int]
    simp (disch := omega) only [kd_88 F, M_within_c, p1, ix_lit, inB_lit, decide_true, Bool.true_or, Bool.or_true, true_and, and_true, kI_add, kI_sub, kI_mul, tn_add, Int.toNat_natCast, Int.reduceToNat, kI_le, kI_lt, kI_inj, decide_eq_true_eq, Bool.not_eq_true', decide_eq_false_iff_not, not_true_eq_false, not_false_eq_true, Classical.not_not, Bool.false_eq_true, if_true, if_false, z0, bI_k0, bI_k1, isB_b, isB_0, isB_1, kI_long, kd_stI, ln_stI, rv_stI, kJ_div, er, zJ0, kJ_inj, Int.reduceEq]
    exact GI.use (M_whyStroke_g C (by omega) (by omega) (by omega) (by omega)) (by omega) (fun h' e => ⟨rfl, e⟩)
  · rw [if_neg q1]
    have p1 : (0 ≤ n ∧ n ≤ 399) = False := eq_false (by omega)
    by_cases q2 : 500 ≤ n ∧ n < 600
    · rw [if_pos q2]
      have p2 : (500 ≤ n ∧ n ≤ 599) = True := eq_true (by omega)
      simp (disch := omega) only [kd_88 F, M_within_c, p1, p2, ix_lit, inB_lit, decide_true, Bool.true_or, Bool.or_true, true_and, and_true, kI_add, kI_sub, kI_mul, tn_add, Int.toNat_natCast, Int.reduceToNat, kI_le, kI_lt, kI_inj, decide_eq_true_eq, Bool.not_eq_true', decide_eq_false_iff_not, not_true_eq_false, not_false_eq_true, Classical.not_not, Bool.false_eq_true, if_true, if_false, z0, bI_k0, bI_k1, isB_b, isB_0, isB_1, kI_long, kd_stI, ln_stI, rv_stI, kJ_sub, M_whyRub_c C]
      exact ⟨rfl, Fr_rfl _ _ _⟩
    · rw [if_neg q2]
      have p2 : (500 ≤ n ∧ n ≤ 599) = False := eq_false (by omega)
      by_cases q3 : 600 ≤ n ∧ n < 700
      · rw [if_pos q3]
        have p3 : (600 ≤ n ∧ n ≤ 699) = True := eq_true (by omega)
        have d1 : 0 ≤ (n - 600) / 10 ∧ (n - 600) / 10 < 10 := by omega
        simp (disch := omega) only [kd_88 F, M_within_c, p1, p2, p3, ix_lit, inB_lit, decide_true, Bool.true_or, Bool.or_true, true_and, and_true, kI_add, kI_sub, kI_mul, tn_add, Int.toNat_natCast, Int.reduceToNat, kI_le, kI_lt, kI_inj, decide_eq_true_eq, Bool.not_eq_true', decide_eq_false_iff_not, not_true_eq_false, not_false_eq_true, Classical.not_not, Bool.false_eq_true, if_true, if_false, z0, bI_k0, bI_k1, isB_b, isB_0, isB_1, kI_long, kd_stI, ln_stI, rv_stI, kJ_sub, kJ_div, zJ0, kJ_inj, Int.reduceEq, M_isHand_c C]
        unfold whyB
        by_cases z : 0 ≤ (n - 600) / 10 ∧ (n - 600) / 10 < sH s
        · rw [if_neg (fun w => w z), if_pos ⟨z, by omega⟩]
          exact ⟨rfl, Fr_rfl _ _ _⟩
        · rw [if_pos z, if_neg (fun w => z w.1)]
          exact ⟨rfl, Fr_rfl _ _ _⟩
      · rw [if_neg q3]
        have p3 : (600 ≤ n ∧ n ≤ 699) = False := eq_false (by omega)
        by_cases q4 : 700 ≤ n ∧ n < 800
        · rw [if_pos q4]
          have p4 : (700 ≤ n ∧ n ≤ 799) = True := eq_true (by omega)
          simp (disch := omega) only [kd_88 F, M_within_c, p1, p2, p3, p4, ix_lit, inB_lit, decide_true, Bool.true_or, Bool.or_true, true_and, and_true, kI_add, kI_sub, kI_mul, tn_add, Int.toNat_natCast, Int.reduceToNat, kI_le, kI_lt, kI_inj, decide_eq_true_eq, Bool.not_eq_true', decide_eq_false_iff_not, not_true_eq_false, not_false_eq_true, Classical.not_not, Bool.false_eq_true, if_true, if_false, z0, bI_k0, bI_k1, isB_b, isB_0, isB_1, kI_long, kd_stI, ln_stI, rv_stI, kJ_sub, M_whyHide_c C]
          exact ⟨rfl, Fr_rfl _ _ _⟩
        · rw [if_neg q4]
          have p4 : (700 ≤ n ∧ n ≤ 799) = False := eq_false (by omega)
          simp (disch := omega) only [kd_88 F, M_within_c, p1, p2, p3, p4, ix_lit, inB_lit, decide_true, Bool.true_or, Bool.or_true, true_and, and_true, kI_add, kI_sub, kI_mul, tn_add, Int.toNat_natCast, Int.reduceToNat, kI_le, kI_lt, kI_inj, decide_eq_true_eq, Bool.not_eq_true', decide_eq_false_iff_not, not_true_eq_false, not_false_eq_true, Classical.not_not, Bool.false_eq_true, if_true, if_false, z0, bI_k0, bI_k1, isB_b, isB_0, isB_1, kI_long, kd_stI, ln_stI, rv_stI]
          exact ⟨rfl, Fr_rfl _ _ _⟩
theorem M_does_g {s : ST} {y : DY} {h : AH} (C : MC s y h) {n : Int} (q : whyD s y n = 0) : GV 2 m_M_does [.ref 88, .int (kI n)] h (PostM s (dD y n) h) := by
  have F := C.fix
  have n2 := C.wf.n12
  have h4 := C.wf.2.2.2.2.2.1
  unfold whyD at q
  refine GVo (s_M_does_0 ?_)
  by_cases q1 : 0 ≤ n ∧ n < 400
  · rw [if_pos q1] at q
    have z := whyS_0 q
    have e : dD y n = dDraw y (n % 100).toNat := by unfold dD; rw [if_pos q1.2]
    rw [e]
    have er : kI n - kI n / kI 100 * kI 100 = kI ((n % 100).toNat : Int) := by rw [kI_div' (by omega) (by omega) (by omega) (by omega)]; congr 1; omega
    simp (disch := omega) only [kd_88 F, er, ix_lit, inB_lit, decide_true, Bool.true_or, Bool.or_true, true_and, and_true, kI_add, kI_sub, kI_mul, tn_add, Int.toNat_natCast, Int.reduceToNat, kI_le, kI_lt, kI_inj, decide_eq_true_eq, Bool.not_eq_true', decide_eq_false_iff_not, not_true_eq_false, not_false_eq_true, Classical.not_not, Bool.false_eq_true, if_true, if_false, z0, bI_k0, bI_k1, isB_b, isB_0, isB_1, kI_long, kd_stI, ln_stI, rv_stI, Int.reduceEq]
    rw [if_neg (by omega)]
    exact GV.use (M_draws_g C (by omega)) (by omega) (fun h' e => ⟨rfl, e⟩)
  · rw [if_neg q1] at q
    by_cases q2 : 500 ≤ n ∧ n < 600
    · rw [if_pos q2] at q
      have z := whyR_0 q
      have e : dD y n = dRub y (n - 500).toNat := by unfold dD; rw [if_neg (by omega), if_pos q2.2]
      rw [e]
      have er : n - 500 = ((n - 500).toNat : Int) := by omega
      simp (disch := omega) only [kd_88 F, ix_lit, inB_lit, decide_true, Bool.true_or, Bool.or_true, true_and, and_true, kI_add, kI_sub, kI_mul, tn_add, Int.toNat_natCast, Int.reduceToNat, kI_le, kI_lt, kI_inj, decide_eq_true_eq, Bool.not_eq_true', decide_eq_false_iff_not, not_true_eq_false, not_false_eq_true, Classical.not_not, Bool.false_eq_true, if_true, if_false, z0, bI_k0, bI_k1, isB_b, isB_0, isB_1, kI_long, kd_stI, ln_stI, rv_stI]
      rw [if_pos (by omega), if_neg (by omega), er]
      exact GV.use (M_rubs_g C (by omega)) (by omega) (fun h' e => ⟨rfl, e⟩)
    · rw [if_neg q2] at q
      by_cases q3 : 600 ≤ n ∧ n < 700
      · rw [if_pos q3] at q
        have z := whyB_0 q
        have e : dD y n = dHab y ((n - 600) / 10).toNat (n % 10).toNat := by unfold dD; rw [if_neg (by omega), if_neg (by omega), if_pos q3.2]
        rw [e]
        have er : kI n - kI n / kI 10 * kI 10 = kI ((n % 10).toNat : Int) := by rw [kI_div' (by omega) (by omega) (by omega) (by omega)]; congr 1; omega
        have ed : kI (n - 600) / kI 10 = kI (((n - 600) / 10).toNat : Int) := by rw [kI_div (by omega) (by omega) (by omega) (by omega)]; congr 1; omega
        have ea : ((n - 600) / 10).toNat < 4 := by omega
        simp (disch := omega) only [kd_88 F, rv_88_1 F, kd_89 F, ln_89 F, er, ix_lit, inB_lit, decide_true, Bool.true_or, Bool.or_true, true_and, and_true, kI_add, kI_sub, kI_mul, tn_add, Int.toNat_natCast, Int.reduceToNat, kI_le, kI_lt, kI_inj, decide_eq_true_eq, Bool.not_eq_true', decide_eq_false_iff_not, not_true_eq_false, not_false_eq_true, Classical.not_not, Bool.false_eq_true, if_true, if_false, z0, bI_k0, bI_k1, isB_b, isB_0, isB_1, kI_long, kd_stI, ln_stI, rv_stI, ed, Int.reduceEq]
        rw [if_pos (by omega), if_pos (by omega), if_neg (by omega)]
        exact ⟨rfl, st_B C ea (by omega)⟩
      · rw [if_neg q3] at q
        by_cases q4 : 700 ≤ n ∧ n < 800
        · rw [if_pos q4] at q
          have z := whyH_0 q
          have e : dD y n = dHide y (n - 700).toNat := by unfold dD; rw [if_neg (by omega), if_neg (by omega), if_neg (by omega)]
          rw [e]
          have er : n - 700 = ((n - 700).toNat : Int) := by omega
          simp (disch := omega) only [kd_88 F, rv_88_1 F, kd_89 F, ln_89 F, ix_lit, inB_lit, decide_true, Bool.true_or, Bool.or_true, true_and, and_true, kI_add, kI_sub, kI_mul, tn_add, Int.toNat_natCast, Int.reduceToNat, kI_le, kI_lt, kI_inj, decide_eq_true_eq, Bool.not_eq_true', decide_eq_false_iff_not, not_true_eq_false, not_false_eq_true, Classical.not_not, Bool.false_eq_true, if_true, if_false, z0, bI_k0, bI_k1, isB_b, isB_0, isB_1, kI_long, kd_stI, ln_stI, rv_stI]
          rw [if_pos (by omega), if_pos (by omega), if_pos (by omega), er]
          exact ⟨rfl, st_X C (by omega)⟩
        · rw [if_neg q4] at q
          omega
