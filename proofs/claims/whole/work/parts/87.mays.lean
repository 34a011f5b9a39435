/-! serving a permit; the reference's stands and what may be drawn there -/
def PA (T : Nat → Nat) (R : Nat → ST) (i : Nat) (h : AH) : Prop := ivA h (45 + 3 * i) 0 = kI i ∧ rvA h (45 + 3 * i) 1 < 1000000 ∧ ∃ hb : Int, -1 ≤ hb ∧ hb ≤ 9 ∧ ivA h (45 + 3 * i) 2 = kI hb ∧ (0 ≤ hb → ∃ ask hol, PS T (R (rvA h (45 + 3 * i) 1)) (rvA h (45 + 3 * i) 1) i hb.toNat ask hol h)
def APe (i a : Nat) : Prop := a = 45 + 3 * i ∨ a = 46 + 3 * i ∨ a = 47 + 3 * i
theorem rvT_pe {i : Nat} (hi : i < 4) : ∀ q ∈ rvTab, ¬ (q.1 = 45 + 3 * i ∧ q.2.1 = 1) := by
  have e : i = 0 ∨ i = 1 ∨ i = 2 ∨ i = 3 := by omega
  rcases e with rfl | rfl | rfl | rfl
  · decide +kernel
  · decide +kernel
  · decide +kernel
  · decide +kernel
theorem Pe_serve_g {T : Nat → Nat} (t : TF T) {R : Nat → ST} {s : ST} {p i hb : Nat} {h : AH} (F : Fix h) (hi : i < 4) (hb9 : hb ≤ 9) (P : PA T R i h) (hp : p < 1000000) (Rp : R p = s) (S : XS T s p h) : GV 2 m_Pe_serve [.ref (45 + 3 * i), .ref p, .int (kI hb)] h (fun h' => FN (APe i) h h' ∧ Fix h' ∧ szA h' = szA h ∧ usA h' = usA h ∧ ∃ ask hol, PS T s p i hb ask hol h') := by
  have q := pe_fix F hi
  obtain ⟨i0, lo, hb0, b1, b2, i2, H⟩ := P
  have reset : Safe 1 m_Pe_serve (16, [.ref (45 + 3 * i), .ref p, .int (kI hb)], [], h) (fun v h' => Eqv v none ∧ FN (APe i) h h' ∧ Fix h' ∧ szA h' = szA h ∧ usA h' = usA h ∧ ∃ ask hol, PS T s p i hb ask hol h') := by
    have F1 : Fix (stI (stR h (45 + 3 * i) 1 p) (45 + 3 * i) 2 (kI hb)) := fix_stI (fix_stR F (rvT_pe hi)) _ _ _
    have q1 := pe_fix F1 hi
    have n1 : FN (APe i) h (stI (stR h (45 + 3 * i) 1 p) (45 + 3 * i) 2 (kI hb)) := (FN_stR (Or.inl rfl)).trans (((Fr_rfl (fun a k => a = 45 + 3 * i ∧ k = 2) I0 (stR h (45 + 3 * i) 1 p)).stI ⟨rfl, rfl⟩ _).fn (fun a k w => Or.inl w.1) (fun _ _ w => w.elim))
    refine s_Pe_serve_16 ?_
    simp only [kd_stI, kd_stR, q.2.1, decide_true, true_and]
    rw [q1.2.2.1]
    refine GV.use (Ar_fill_g q1.2.2.2.2.1 q1.2.2.2.2.2.1 (by omega) (kJ 0)) (by omega) (fun h2 e2 => ?_)
    have F2 := e2.1.fix F1
    have q2 := pe_fix F2 hi
    refine ⟨by rw [q2.2.1]; rfl, ?_⟩
    rw [q2.2.2.2.1]
    refine GV.use (Ar_fill_g q2.2.2.2.2.2.2.1 q2.2.2.2.2.2.2.2 (by omega) (kJ 0)) (by omega) (fun h3 e3 => ?_)
    have F3 := e3.1.fix F2
    have n3 : FN (APe i) h h3 := n1.trans ((e2.1.fn (fun _ _ w => w.elim) (fun a _ w => Or.inr (Or.inl w))).trans (e3.1.fn (fun _ _ w => w.elim) (fun a _ w => Or.inr (Or.inr w))))
    have iv3 : ∀ a k, ivA h3 a k = ivA (stI (stR h (45 + 3 * i) 1 p) (45 + 3 * i) 2 (kI hb)) a k := fun a k => by rw [e3.1.2.2.2.2.2.1 a k (fun w => w), e2.1.2.2.2.2.2.1 a k (fun w => w)]
    have tt : ∀ a, APe i a → T a ≠ 0 := fun a w => by
      have := t.two (a := a) (by unfold APe at w; omega) (by unfold APe at w; omega)
      omega
    refine ⟨rfl, n3, F3, ?_, ?_, fun _ => 0, fun _ => 0, S.fn n3 tt, ?_, ?_, ?_, fun k hk => ?_, fun k hk => ?_, fun k hk => ?_⟩
    · rw [e3.1.2.2.2.1, e2.1.2.2.2.1]; rfl
    · rw [e3.1.2.2.2.2.1, e2.1.2.2.2.2.1]; rfl
    · rw [iv3, iv_stI, if_neg (by omega)]; exact i0
    · rw [iv3, iv_stI, if_pos ⟨rfl, rfl⟩]
    · rw [e3.1.2.2.1, e2.1.2.2.1]
      show rvA (stR h (45 + 3 * i) 1 p) (45 + 3 * i) 1 = p
      rw [rv_stR, if_pos ⟨rfl, rfl⟩]
    · rw [e3.1.2.2.2.2.2.2 _ _ (by omega)]
      exact e2.2 k hk
    · exact e3.2 k hk
    · refine ⟨Nat.two_pow_pos 60, Nat.two_pow_pos 60, fun b => ⟨fun w => ?_, fun w => ?_⟩⟩
      · rw [Nat.zero_testBit] at w; cases w
      · rw [Nat.zero_testBit] at w; cases w
  refine GVo (s_Pe_serve_0 ?_)
  refine ⟨by rw [q.2.1]; rfl, by rw [decide_eq_true_eq]; exact lo, by rw [decide_eq_true_eq]; exact hp, ?_⟩
  by_cases e : rvA h (45 + 3 * i) 1 = p
  · rw [if_neg (by simp [e])]
    refine ⟨by rw [q.2.1]; rfl, ?_⟩
    by_cases e2 : hb0 = (hb : Int)
    · rw [if_pos (by rw [decide_eq_true_eq, i2, e2])]
      obtain ⟨ask, hol, PS0⟩ := H (by omega)
      rw [e, Rp, e2, Int.toNat_natCast] at PS0
      exact ⟨rfl, FN_rfl _ _, F, rfl, rfl, ask, hol, PS0⟩
    · rw [if_neg (by rw [decide_eq_true_eq, i2, kI_inj (by omega) (by omega) (by omega) (by omega)]; exact e2)]
      exact reset
  · rw [if_pos (by simp [e])]
    exact reset
/-- a stand that can come about -/
def cbP (y : DY) (m l : Nat) : Prop := dif (yD y) m = 0 ∧ ((m = yD y ∧ l = yL y) ∨ (m ≠ yD y ∧ l < 12 ∧ (dif m (yD y)).testBit l = true))
theorem M_canBe_c {s : ST} {y : DY} {d : Nat} {h : AH} (C : MC s y h) (hd : 2 ≤ d) {m l : Nat} (hm : m < 4096) (hl : l ≤ 12) {K : Int32 → AH → Prop} : CallI d m_M_canBe [.ref 88, .int (kI m), .int (kI l)] h K ↔ ((cbP y m l → K (kI 1) h) ∧ (¬ cbP y m l → K (kI 0) h)) := by
  have F := C.fix
  have hD := C.wy.m12 C.wf
  have hL := C.wy.l12 C.wf
  have d1 : dif (yD y) m < 4096 := dif_lt (n := 12) hD
  have d2 : dif m (yD y) < 4096 := dif_lt (n := 12) hm
  have key : ∀ x : Int32, (x = kI 1 ∧ cbP y m l) ∨ (x = kI 0 ∧ ¬ cbP y m l) → Ret 2 m_M_canBe [.ref 88, .int (kI m), .int (kI l)] h (some (.int x)) h := by
    intro x hx
    refine ret_of (s_M_canBe_0 ?_)
    by_cases q1 : dif (yD y) m = 0
    · have q1' : ((dif (yD y) m : Nat) : Int) = 0 := by omega
      by_cases q2 : m = yD y
      · subst q2
        by_cases q3 : l = yL y
        · subst q3
          have cb : cbP y (yD y) (yL y) := ⟨q1, Or.inl ⟨rfl, rfl⟩⟩
          have ex : x = kI 1 := by rcases hx with w | w; exact w.1; exact absurd cb w.2
          subst ex
          simp (disch := omega) only [kd_88 F, rv_88_1 F, kd_89 F, ln_89 F, ix_lit, inB_lit, decide_true, Bool.true_or, Bool.or_true, true_and, and_true, kI_add, kI_sub, kI_mul, tn_add, Int.toNat_natCast, Int.reduceToNat, kI_le, kI_lt, kI_inj, decide_eq_true_eq, Bool.not_eq_true', decide_eq_false_iff_not, not_true_eq_false, not_false_eq_true, Classical.not_not, Bool.false_eq_true, if_true, if_false, z0, bI_k0, bI_k1, isB_b, isB_0, isB_1, kI_long, kd_stI, ln_stI, rv_stI, C.i22, C.i23, kI_dif, q1', Bool.true_eq_false, Bool.false_eq_true, not_true, not_false_eq_true]
        · have q3' : ¬ (l : Int) = (yL y : Int) := by omega
          have cb : ¬ cbP y (yD y) l := fun w => w.2.elim (fun w => q3 w.2) (fun w => w.1 rfl)
          have ex : x = kI 0 := by rcases hx with w | w; exact absurd w.2 cb; exact w.1
          subst ex
          simp (disch := omega) only [kd_88 F, rv_88_1 F, kd_89 F, ln_89 F, ix_lit, inB_lit, decide_true, Bool.true_or, Bool.or_true, true_and, and_true, kI_add, kI_sub, kI_mul, tn_add, Int.toNat_natCast, Int.reduceToNat, kI_le, kI_lt, kI_inj, decide_eq_true_eq, Bool.not_eq_true', decide_eq_false_iff_not, not_true_eq_false, not_false_eq_true, Classical.not_not, Bool.false_eq_true, if_true, if_false, z0, bI_k0, bI_k1, isB_b, isB_0, isB_1, kI_long, kd_stI, ln_stI, rv_stI, C.i22, C.i23, kI_dif, q1', q3', Bool.true_eq_false, Bool.false_eq_true, not_true, not_false_eq_true]
      · have q2' : ¬ (m : Int) = (yD y : Int) := by omega
        by_cases q3 : l = 12
        · have q3' : (12 : Int) ≤ (l : Int) := by omega
          have cb : ¬ cbP y m l := fun w => w.2.elim (fun w => q2 w.1) (fun w => by omega)
          have ex : x = kI 0 := by rcases hx with w | w; exact absurd w.2 cb; exact w.1
          subst ex
          simp (disch := omega) only [kd_88 F, rv_88_1 F, kd_89 F, ln_89 F, ix_lit, inB_lit, decide_true, Bool.true_or, Bool.or_true, true_and, and_true, kI_add, kI_sub, kI_mul, tn_add, Int.toNat_natCast, Int.reduceToNat, kI_le, kI_lt, kI_inj, decide_eq_true_eq, Bool.not_eq_true', decide_eq_false_iff_not, not_true_eq_false, not_false_eq_true, Classical.not_not, Bool.false_eq_true, if_true, if_false, z0, bI_k0, bI_k1, isB_b, isB_0, isB_1, kI_long, kd_stI, ln_stI, rv_stI, C.i22, C.i23, kI_dif, q1', q2', q3']
        · have q3' : ¬ (12 : Int) ≤ (l : Int) := by omega
          by_cases q4 : (dif m (yD y)).testBit l = true
          · have cb : cbP y m l := ⟨q1, Or.inr ⟨q2, by omega, q4⟩⟩
            have ex : x = kI 1 := by rcases hx with w | w; exact w.1; exact absurd cb w.2
            subst ex
            simp (disch := omega) only [kd_88 F, rv_88_1 F, kd_89 F, ln_89 F, ix_lit, inB_lit, decide_true, Bool.true_or, Bool.or_true, true_and, and_true, kI_add, kI_sub, kI_mul, tn_add, Int.toNat_natCast, Int.reduceToNat, kI_le, kI_lt, kI_inj, decide_eq_true_eq, Bool.not_eq_true', decide_eq_false_iff_not, not_true_eq_false, not_false_eq_true, Classical.not_not, Bool.false_eq_true, if_true, if_false, z0, bI_k0, bI_k1, isB_b, isB_0, isB_1, kI_long, kd_stI, ln_stI, rv_stI, C.i22, C.i23, kI_dif, q1', q2', q3', M_isIn_c, q4]
          · have q4' : (dif m (yD y)).testBit l = false := by simpa using q4
            have cb : ¬ cbP y m l := fun w => w.2.elim (fun w => q2 w.1) (fun w => q4 w.2.2)
            have ex : x = kI 0 := by rcases hx with w | w; exact absurd w.2 cb; exact w.1
            subst ex
            simp (disch := omega) only [kd_88 F, rv_88_1 F, kd_89 F, ln_89 F, ix_lit, inB_lit, decide_true, Bool.true_or, Bool.or_true, true_and, and_true, kI_add, kI_sub, kI_mul, tn_add, Int.toNat_natCast, Int.reduceToNat, kI_le, kI_lt, kI_inj, decide_eq_true_eq, Bool.not_eq_true', decide_eq_false_iff_not, not_true_eq_false, not_false_eq_true, Classical.not_not, Bool.false_eq_true, if_true, if_false, z0, bI_k0, bI_k1, isB_b, isB_0, isB_1, kI_long, kd_stI, ln_stI, rv_stI, C.i22, C.i23, kI_dif, q1', q2', q3', M_isIn_c, q4']
    · have q1' : ¬ ((dif (yD y) m : Nat) : Int) = 0 := by omega
      have cb : ¬ cbP y m l := fun w => q1 w.1
      have ex : x = kI 0 := by rcases hx with w | w; exact absurd w.2 cb; exact w.1
      subst ex
      simp (disch := omega) only [kd_88 F, rv_88_1 F, kd_89 F, ln_89 F, ix_lit, inB_lit, decide_true, Bool.true_or, Bool.or_true, true_and, and_true, kI_add, kI_sub, kI_mul, tn_add, Int.toNat_natCast, Int.reduceToNat, kI_le, kI_lt, kI_inj, decide_eq_true_eq, Bool.not_eq_true', decide_eq_false_iff_not, not_true_eq_false, not_false_eq_true, Classical.not_not, Bool.false_eq_true, if_true, if_false, z0, bI_k0, bI_k1, isB_b, isB_0, isB_1, kI_long, kd_stI, ln_stI, rv_stI, C.i22, C.i23, kI_dif, q1']
  by_cases cb : cbP y m l
  · rw [Ret.I (key (kI 1) (Or.inl ⟨rfl, cb⟩)) hd]
    exact ⟨fun w => ⟨fun _ => w, fun z => absurd cb z⟩, fun w => w.1 cb⟩
  · rw [Ret.I (key (kI 0) (Or.inr ⟨rfl, cb⟩)) hd]
    exact ⟨fun w => ⟨fun z => absurd z cb, fun _ => w⟩, fun w => w.2 cb⟩
theorem M_standOf_c {d : Nat} (hd : 1 ≤ d) {h : AH} {m l : Nat} {K : Int32 → AH → Prop} : CallI d m_M_standOf [.int (kI m), .int (kI l)] h K ↔ K (kI ((13 * m + l : Nat) : Int)) h := by
  refine Ret.I (d := 1) (ret_of (s_M_standOf_0 ?_)) hd
  rw [kI_mul, kI_add]
  exact ⟨rfl, rfl⟩
theorem cbP_l {s : ST} {y : DY} (w : WFS s) (wy : WFY s y) {m l : Nat} (hm : m < 2 ^ sN s) (cb : cbP y m l) : l = 12 ∨ l < sN s := by
  rcases cb.2 with ⟨_, q⟩ | ⟨_, _, q⟩
  · rw [q]; exact wy.2.1
  · rw [dif_bit] at q
    simp only [Bool.and_eq_true] at q
    right
    by_cases z : l < sN s
    · exact z
    · rw [bit_hi hm (by omega)] at q
      cases q.1
abbrev FMy (a0 : Nat) (h h' : AH) : Prop := Fr (fun a k => IM a k ∨ a = a0) JM h h'
theorem MC.my {s : ST} {y : DY} {a0 : Nat} {h h' : AH} (C : MC s y h) (e : FMy a0 h h') (n : a0 ≠ 89) : MC s y h' := C.scr e (fun k w => by unfold IM at w; omega)
/-- the table of what may be drawn, from masks above k on -/
def Mays (s : ST) (y : DY) (hd a0 k : Nat) (h : AH) : Prop := ∀ m l, k ≤ m → m < 2 ^ sN s → l ≤ 12 → cbP y m l → ivA h a0 (13 * m + l) = kI (mvF s hd (yB y hd) m l)
theorem M_laysMays_g {s : ST} {y : DY} {h : AH} (C : MC s y h) {hd a0 : Nat} (hh : hd < 4) (ha : a0 = 96 ∨ a0 = 97) : GV 7 m_M_laysMays [.ref 88, .int (kI hd), .ref a0] h (fun h' => FMy a0 h h' ∧ Mays s y hd a0 (yD y) h') := by
  have F := C.fix
  have n2 := C.wf.n12
  have p1 : 1 ≤ 2 ^ sN s := Nat.one_le_two_pow
  have p12 : 2 ^ sN s ≤ 2 ^ 12 := Nat.pow_le_pow_right (by omega) n2
  have p12' : (2 : Nat) ^ 12 = 4096 := rfl
  have hD := C.wy.1
  have ak : ∀ h2, Fix h2 → kdA h2 a0 = 20 ∧ lnA h2 a0 = 53248 := fun h2 F2 => by
    rcases ha with rfl | rfl
    · exact ⟨kd_96 F2, ln_96 F2⟩
    · exact ⟨kd_97 F2, ln_97 F2⟩
  refine GVo (s_M_laysMays_0 ?_)
  simp (disch := omega) only [kd_88 F, decide_true, true_and, M_everyCell_c C]
  suffices H : ∀ k, k ≤ 2 ^ sN s → yD y ≤ k → ∀ h2, FMy a0 h h2 → Mays s y hd a0 k h2 → Safe 6 m_M_laysMays (5, [.ref 88, .int (kI hd), .ref a0, .int (kI ((k : Int) - 1)), unV, unV, unV], [], h2) (fun v h' => Eqv v none ∧ FMy a0 h h' ∧ Mays s y hd a0 (yD y) h') by
    have := H (2 ^ sN s) (by omega) (by omega) h (Fr_rfl _ _ _) (fun m l h1 h2 => by omega)
    rw [show ((2 ^ sN s : Nat) : Int) - 1 = ((2 ^ sN s - 1 : Nat) : Int) by omega] at this
    exact this
  intro k
  induction k with
  | zero =>
    intro _ h0 h2 e2 M2
    have C2 := C.my e2 (by omega)
    have F2 := C2.fix
    refine s_M_laysMays_5 ?_
    have z : ((0 : Nat) : Int) - 1 < (yD y : Int) := by omega
    simp (disch := omega) only [kd_88 F2, rv_88_1 F2, kd_89 F2, ln_89 F2, ix_lit, inB_lit, decide_true, Bool.true_or, Bool.or_true, true_and, and_true, kI_add, kI_sub, kI_mul, tn_add, Int.toNat_natCast, Int.reduceToNat, kI_le, kI_lt, kI_inj, decide_eq_true_eq, Bool.not_eq_true', decide_eq_false_iff_not, not_true_eq_false, not_false_eq_true, Classical.not_not, Bool.false_eq_true, if_true, if_false, z0, bI_k0, bI_k1, isB_b, isB_0, isB_1, kI_long, kd_stI, ln_stI, rv_stI, C2.i22, z]
    exact ⟨rfl, e2, by rw [show yD y = 0 by omega]; exact M2⟩
  | succ k ih =>
    intro hk h0 h2 e2 M2
    have C2 := C.my e2 (by omega)
    have F2 := C2.fix
    have ek : ((k + 1 : Nat) : Int) - 1 = (k : Int) := by omega
    refine s_M_laysMays_5 ?_
    rw [ek]
    by_cases zD : k < yD y
    · have z : (k : Int) < (yD y : Int) := by omega
      simp (disch := omega) only [kd_88 F2, rv_88_1 F2, kd_89 F2, ln_89 F2, ix_lit, inB_lit, decide_true, Bool.true_or, Bool.or_true, true_and, and_true, kI_add, kI_sub, kI_mul, tn_add, Int.toNat_natCast, Int.reduceToNat, kI_le, kI_lt, kI_inj, decide_eq_true_eq, Bool.not_eq_true', decide_eq_false_iff_not, not_true_eq_false, not_false_eq_true, Classical.not_not, Bool.false_eq_true, if_true, if_false, z0, bI_k0, bI_k1, isB_b, isB_0, isB_1, kI_long, kd_stI, ln_stI, rv_stI, C2.i22, z]
      exact ⟨rfl, e2, by rw [show yD y = k + 1 by omega]; exact M2⟩
    · have z : ¬ (k : Int) < (yD y : Int) := by omega
      simp (disch := omega) only [kd_88 F2, rv_88_1 F2, kd_89 F2, ln_89 F2, ix_lit, inB_lit, decide_true, Bool.true_or, Bool.or_true, true_and, and_true, kI_add, kI_sub, kI_mul, tn_add, Int.toNat_natCast, Int.reduceToNat, kI_le, kI_lt, kI_inj, decide_eq_true_eq, Bool.not_eq_true', decide_eq_false_iff_not, not_true_eq_false, not_false_eq_true, Classical.not_not, Bool.false_eq_true, if_true, if_false, z0, bI_k0, bI_k1, isB_b, isB_0, isB_1, kI_long, kd_stI, ln_stI, rv_stI, C2.i22, z]
      suffices H2 : ∀ l, l ≤ 13 → ∀ h3, FMy a0 h h3 → Mays s y hd a0 (k + 1) h3 → (∀ l', l' < l → cbP y k l' → ivA h3 a0 (13 * k + l') = kI (mvF s hd (yB y hd) k l')) → Safe 6 m_M_laysMays (19, [.ref 88, .int (kI hd), .ref a0, .int (kI k), .int (kI l), unV, unV], [], h3) (fun v h' => Eqv v none ∧ FMy a0 h h' ∧ Mays s y hd a0 (yD y) h') by
        exact H2 0 (by omega) h2 e2 M2 (fun l' hl' => by omega)
      refine down_ind 13 ?_ ?_
      · intro h3 e3 M3 R3
        refine s_M_laysMays_19 ?_
        have z13 : (12 : Int) < ((13 : Nat) : Int) := by omega
        have em : kI (k : Int) + kI (-1) = kI ((k : Int) - 1) := by rw [kI_add]; rfl
        rw [em]
        simp (disch := omega) only [ix_lit, inB_lit, decide_true, Bool.true_or, Bool.or_true, true_and, and_true, kI_add, kI_sub, kI_mul, tn_add, Int.toNat_natCast, Int.reduceToNat, kI_le, kI_lt, kI_inj, decide_eq_true_eq, Bool.not_eq_true', decide_eq_false_iff_not, not_true_eq_false, not_false_eq_true, Classical.not_not, Bool.false_eq_true, if_true, if_false, z0, bI_k0, bI_k1, isB_b, isB_0, isB_1, kI_long, kd_stI, ln_stI, rv_stI, z13]
        refine ih (by omega) (by omega) h3 e3 (fun m l h1 h2' h3' cb => ?_)
        by_cases qm : m = k
        · rw [qm] at cb ⊢
          exact R3 l (by omega) cb
        · exact M3 m l (by omega) h2' h3' cb
      · intro l hl ih2 h3 e3 M3 R3
        have C3 := C.my e3 (by omega)
        have F3 := C3.fix
        have zl : ¬ (12 : Int) < (l : Int) := by omega
        refine s_M_laysMays_19 ?_
        simp (disch := omega) only [kd_88 F3, ix_lit, inB_lit, decide_true, Bool.true_or, Bool.or_true, true_and, and_true, kI_add, kI_sub, kI_mul, tn_add, Int.toNat_natCast, Int.reduceToNat, kI_le, kI_lt, kI_inj, decide_eq_true_eq, Bool.not_eq_true', decide_eq_false_iff_not, not_true_eq_false, not_false_eq_true, Classical.not_not, Bool.false_eq_true, if_true, if_false, z0, bI_k0, bI_k1, isB_b, isB_0, isB_1, kI_long, kd_stI, ln_stI, rv_stI, zl, M_canBe_c C3]
        refine ⟨fun cb => ?_, fun nb => ?_⟩
        · rw [if_pos (by omega)]
          have hl' := cbP_l C.wf C.wy (show k < 2 ^ sN s by omega) cb
          suffices H3 : ∀ c, c ≤ sN s → ∀ h4, FMy a0 h h4 → Mays s y hd a0 (k + 1) h4 → (∀ l', l' < l → cbP y k l' → ivA h4 a0 (13 * k + l') = kI (mvF s hd (yB y hd) k l')) → Safe 6 m_M_laysMays (45, [.ref 88, .int (kI hd), .ref a0, .int (kI k), .int (kI l), .int (kI (bitsB (fun c => mayF s hd (yB y hd) c k l) c : Nat)), .int (kI c)], [], h4) (fun v h' => Eqv v none ∧ FMy a0 h h' ∧ Mays s y hd a0 (yD y) h') by
            exact H3 0 (by omega) h3 e3 M3 R3
          refine down_ind (sN s) ?_ ?_
          · intro h4 e4 M4 R4
            have C4 := C.my e4 (by omega)
            have F4 := C4.fix
            have a4 := ak h4 F4
            have ix' : ix (kI ((13 * k + l : Nat) : Int)) = 13 * k + l := ix_kI (by omega)
            have ib' : inB (kI ((13 * k + l : Nat) : Int)) 53248 = true := inB_kI (by omega) (by omega)
            refine s_M_laysMays_45 ?_
            simp (disch := omega) only [kd_88 F4, M_cells_c C4, decide_true, true_and, kI_le, decide_eq_true_eq, Int.le_refl, if_true, M_standOf_c, a4.1, a4.2, ix', ib', kI_add]
            have f5 : FMy a0 h4 (stI h4 a0 (13 * k + l) (kI (bitsB (fun c => mayF s hd (yB y hd) c k l) (sN s) : Nat))) := (Fr_rfl (fun a k => IM a k ∨ a = a0) JM h4).stI (Or.inr rfl) _
            refine ih2 _ (e4.trans f5) (fun m l' h1 h2' h3' cb' => ?_) (fun l' hl2 cb' => ?_)
            · rw [iv_stI, if_neg (by omega)]; exact M4 m l' h1 h2' h3' cb'
            · rw [iv_stI]
              by_cases ql : l' = l
              · rw [if_pos (by omega), ql]; rfl
              · rw [if_neg (by omega)]; exact R4 l' (by omega) cb'
          · intro c hc ih3 h4 e4 M4 R4
            have C4 := C.my e4 (by omega)
            have F4 := C4.fix
            have zc : ¬ (sN s : Int) ≤ (c : Int) := by omega
            refine s_M_laysMays_45 ?_
            simp (disch := omega) only [kd_88 F4, M_cells_c C4, ix_lit, inB_lit, decide_true, Bool.true_or, Bool.or_true, true_and, and_true, kI_add, kI_sub, kI_mul, tn_add, Int.toNat_natCast, Int.reduceToNat, kI_le, kI_lt, kI_inj, decide_eq_true_eq, Bool.not_eq_true', decide_eq_false_iff_not, not_true_eq_false, not_false_eq_true, Classical.not_not, Bool.false_eq_true, if_true, if_false, z0, bI_k0, bI_k1, isB_b, isB_0, isB_1, kI_long, kd_stI, ln_stI, rv_stI, zc]
            refine GI.use (M_mayDraw_g C4 hh hc (by omega) hl') (by omega) (fun h5 e5 => ?_)
            have e5' : FMy a0 h h5 := e4.trans (e5.mono (fun a k w => Or.inl w) (fun _ _ w => w))
            have iv5 : ∀ k, ivA h5 a0 k = ivA h4 a0 k := fun k => e5.2.2.2.2.2.1 a0 k (by unfold IM; omega)
            have := ih3 h5 e5' (fun m l' h1 h2' h3' cb' => by rw [iv5]; exact M4 m l' h1 h2' h3' cb') (fun l' hl2 cb' => by rw [iv5]; exact R4 l' hl2 cb')
            rw [bitsB_s] at this
            simp (disch := omega) only [ix_lit, inB_lit, decide_true, Bool.true_or, Bool.or_true, true_and, and_true, kI_add, kI_sub, kI_mul, tn_add, Int.toNat_natCast, Int.reduceToNat, kI_le, kI_lt, kI_inj, decide_eq_true_eq, Bool.not_eq_true', decide_eq_false_iff_not, not_true_eq_false, not_false_eq_true, Classical.not_not, Bool.false_eq_true, if_true, if_false, z0, bI_k0, bI_k1, isB_b, isB_0, isB_1, kI_long, kd_stI, ln_stI, rv_stI, kI_shl1]
            by_cases qm : mayF s hd (yB y hd) c k l = true
            · rw [if_pos qm] at this
              rw [if_neg (fun w => w qm)]
              refine s_M_laysMays_77 ?_
              rw [kI_or, kI_add]
              exact this
            · rw [if_neg qm] at this
              rw [if_pos qm]
              refine s_M_laysMays_77 ?_
              rw [show kI 0 = kI ((0 : Nat) : Int) from rfl, kI_or, kI_add]
              exact this
        · refine ih2 h3 e3 M3 (fun l' hl2 cb' => ?_)
          by_cases ql : l' = l
          · rw [ql] at cb'; exact absurd cb' nb
          · exact R3 l' (by omega) cb'
