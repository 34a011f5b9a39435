/-! the greatest common divisor on both sides -/
theorem cmp_eq0 (x y : Int64) : (lg_cmp x y = kI 0) ↔ x = y := cmp_eq x y
theorem cmp_lt0 (x y : Int64) : (lg_cmp x y < kI 0) ↔ x < y := cmp_lt x y
theorem cmp_gt0 (x y : Int64) : (kI 0 < lg_cmp x y) ↔ y < x := cmp_gt x y
theorem cmp_le0 (x y : Int64) : (lg_cmp x y ≤ kI 0) ↔ x ≤ y := cmp_le x y
theorem cmp_ge0 (x y : Int64) : (kI 0 ≤ lg_cmp x y) ↔ y ≤ x := cmp_ge x y
def Eu : Nat → Nat → Nat → Prop
  | 0, _, b => b = 0
  | n + 1, a, b => b = 0 ∨ Eu n b (a % b)
theorem Eu.up : ∀ {n m a b : Nat}, Eu n a b → n ≤ m → Eu m a b
  | 0, 0, _, _, h, _ => h
  | 0, m + 1, _, _, h, _ => Or.inl h
  | n + 1, 0, _, _, _, hm => by omega
  | n + 1, m + 1, a, b, h, hm => by
    rcases h with h | h
    · exact Or.inl h
    · exact Or.inr (h.up (by omega))
theorem Eu_of : ∀ (k a b : Nat), b < 2 ^ k → Eu (2 * k) a b
  | 0, a, b, h => by
    show b = 0
    have : 2 ^ 0 = 1 := rfl
    omega
  | k + 1, a, b, h => by
    by_cases q : b = 0
    · exact Or.inl q
    · refine Or.inr ?_
      have h1 : a % b < b := Nat.mod_lt _ (by omega)
      by_cases q2 : a % b = 0
      · exact Or.inl q2
      · refine Or.inr (Eu_of k _ _ ?_)
        have h2 : b % (a % b) < a % b := Nat.mod_lt _ (by omega)
        have h3 : b % (a % b) ≤ b - (a % b) := by
          have e := Nat.div_add_mod b (a % b)
          have e2 : 1 ≤ b / (a % b) := Nat.div_pos (by omega) (by omega)
          have e3 : a % b ≤ (a % b) * (b / (a % b)) := Nat.le_mul_of_pos_right _ (by omega)
          omega
        have h4 : 2 ^ (k + 1) = 2 ^ k * 2 := Nat.pow_succ 2 k
        omega
theorem gcd_step {a b : Nat} : Nat.gcd b (a % b) = Nat.gcd a b := by
  rw [Nat.gcd_comm a b, Nat.gcd_rec b a, Nat.gcd_comm]
theorem M_common_c {h : AH} : ∀ (n : Nat) {d : Nat} (_ : n + 1 ≤ d) {a b : Nat} (_ : Eu n a b) (_ : a < 2147483648) (_ : b < 2147483648) {K : Int32 → AH → Prop}, CallI d m_M_common [.int (kI a), .int (kI b)] h K ↔ K (kI (Nat.gcd a b)) h
  | n, d, hd, a, b, E, ha, hb, K => by
    by_cases q : b = 0
    · refine Ret.I (d := 1) (ret_of (s_M_common_0 ?_)) (by omega)
      subst q
      simp (disch := omega) only [ix_lit, inB_lit, decide_true, Bool.true_or, Bool.or_true, true_and, and_true, kI_add, kI_sub, kI_mul, tn_add, Int.toNat_natCast, Int.reduceToNat, kI_le, kI_lt, kI_inj, decide_eq_true_eq, Bool.not_eq_true', decide_eq_false_iff_not, not_true_eq_false, not_false_eq_true, Classical.not_not, Bool.false_eq_true, if_true, if_false, z0, bI_k0, bI_k1, isB_b, isB_0, isB_1, kI_long, kd_stI, ln_stI, rv_stI, Int.cast_ofNat_Int, Nat.gcd_zero_right]
      (all_goals first | exact ⟨rfl, rfl⟩ | exact ⟨rfl, trivial⟩ | rfl | trivial)
    · match n, hd, E with
      | 0, _, E => exact absurd E q
      | n + 1, hd, E =>
        have E' : Eu n b (a % b) := by
          rcases E with E | E
          · exact absurd E q
          · exact E
        refine Ret.I (d := n + 2) (ret_of (s_M_common_0 ?_)) (by omega)
        have h1 : a % b < b := Nat.mod_lt _ (by omega)
        have q' : ¬ (b : Int) = 0 := by omega
        have er : kI a - kI a / kI b * kI b = kI ((a % b : Nat) : Int) := kI_rem (by omega) (by omega) (by omega)
        have ih := fun (K : Int32 → AH → Prop) => M_common_c (h := h) n (d := n + 1) (by omega) E' hb (by omega) (K := K)
        simp (disch := omega) only [ix_lit, inB_lit, decide_true, Bool.true_or, Bool.or_true, true_and, and_true, kI_add, kI_sub, kI_mul, tn_add, Int.toNat_natCast, Int.reduceToNat, kI_le, kI_lt, kI_inj, decide_eq_true_eq, Bool.not_eq_true', decide_eq_false_iff_not, not_true_eq_false, not_false_eq_true, Classical.not_not, Bool.false_eq_true, if_true, if_false, z0, bI_k0, bI_k1, isB_b, isB_0, isB_1, kI_long, kd_stI, ln_stI, rv_stI, q', er, ih, gcd_step]
        (all_goals first | exact ⟨rfl, rfl⟩ | exact ⟨rfl, trivial⟩ | rfl | trivial)
theorem M_part_c {d : Nat} (hd : 40 ≤ d) {h : AH} {a b : Nat} {w : Int} (ha : a < 16384) (hb : b < 16384) (h0 : 0 < b) (w1 : 0 ≤ w) (w2 : w ≤ 1) {K : Int32 → AH → Prop} : CallI d m_M_part [.int (kI a), .int (kI b), .int (kI w)] h K ↔ K (kI (((if w = 0 then a else b) / Nat.gcd a b : Nat) : Int)) h := by
  have E := Eu_of 14 a b hb
  have g0 : 0 < Nat.gcd a b := Nat.gcd_pos_of_pos_right _ h0
  have g1 : Nat.gcd a b ≤ b := Nat.gcd_le_right _ h0
  have fin : ∀ z : Nat, z < 16384 → Safe 39 m_M_part (9, [.int (kI a), .int (kI b), unV], [.int (kI z)], h) (fun v k => v = some (.int (kI ((z / Nat.gcd a b : Nat) : Int))) ∧ k = h) := by
    intro z hz
    refine s_M_part_9 ?_
    have q : ¬ (Nat.gcd a b : Int) = 0 := by omega
    simp (disch := omega) only [M_common_c 28 (show 28 + 1 ≤ 39 by omega) E (show a < 2147483648 by omega) (show b < 2147483648 by omega), ix_lit, inB_lit, decide_true, Bool.true_or, Bool.or_true, true_and, and_true, kI_add, kI_sub, kI_mul, tn_add, Int.toNat_natCast, Int.reduceToNat, kI_le, kI_lt, kI_inj, decide_eq_true_eq, Bool.not_eq_true', decide_eq_false_iff_not, not_true_eq_false, not_false_eq_true, Classical.not_not, Bool.false_eq_true, if_true, if_false, z0, bI_k0, bI_k1, isB_b, isB_0, isB_1, kI_long, kd_stI, ln_stI, rv_stI, q, kI_ndiv]
  refine Ret.I (d := 40) (ret_of (s_M_part_0 ?_)) hd
  simp (disch := omega) only [ix_lit, inB_lit, decide_true, Bool.true_or, Bool.or_true, true_and, and_true, kI_add, kI_sub, kI_mul, tn_add, Int.toNat_natCast, Int.reduceToNat, kI_le, kI_lt, kI_inj, decide_eq_true_eq, Bool.not_eq_true', decide_eq_false_iff_not, not_true_eq_false, not_false_eq_true, Classical.not_not, Bool.false_eq_true, if_true, if_false, z0, bI_k0, bI_k1, isB_b, isB_0, isB_1, kI_long, kd_stI, ln_stI, rv_stI]
  by_cases q : w = 0
  · rw [if_neg (fun w => w q), if_pos q]
    exact fin a ha
  · rw [if_pos q, if_neg q]
    exact fin b hb
theorem kJ_ndiv {a b : Nat} (ha : a < 9223372036854775808) (h0 : 0 < b) (hb : b < 9223372036854775808) : kJ a / kJ b = kJ ((a / b : Nat) : Int) := by
  rw [kJ_div (by omega) (by omega) (by omega) (by omega)]
  rfl
theorem kJ_rem {a b : Nat} (ha : a < 9223372036854775808) (h0 : 0 < b) (hb : b < 9223372036854775808) : kJ a - kJ a / kJ b * kJ b = kJ ((a % b : Nat) : Int) := by
  rw [kJ_ndiv ha h0 hb, kJ_mul, kJ_sub, Int.natCast_ediv, rem_int]
  rfl
theorem X_lowest_c {d : Nat} (hd : 1 ≤ d) {h : AH} {a b : Nat} {w : Int} (ha : a < 9223372036854775808) (hb : b < 9223372036854775808) (h0 : 0 < b) (w1 : 0 ≤ w) (w2 : w ≤ 1) {K : Int64 → AH → Prop} : CallJ d m_X_inLowestTerms [.long (kJ a), .long (kJ b), .int (kI w)] h K ↔ K (kJ (((if w = 0 then a else b) / Nat.gcd a b : Nat) : Int)) h := by
  have g0 : 0 < Nat.gcd a b := Nat.gcd_pos_of_pos_right _ h0
  have g1 : Nat.gcd a b ≤ b := Nat.gcd_le_right _ h0
  refine Ret.J (d := 1) (ret_of (s_X_inLowestTerms_0 ?_)) hd
  have fin : Safe 0 m_X_inLowestTerms (45, [.long (kJ a), unV, .long (kJ b), unV, .int (kI w), .long (kJ (Nat.gcd a b : Nat)), unV, unV, unV, unV, unV, unV], [], h) (fun v k => v = some (.long (kJ (((if w = 0 then a else b) / Nat.gcd a b : Nat) : Int))) ∧ k = h) := by
    refine s_X_inLowestTerms_45 ?_
    have q : ¬ (Nat.gcd a b : Int) = 0 := by omega
    simp (disch := omega) only [cmp_eq0, cmp_eq, kJ_inj, zJ0, q, ix_lit, inB_lit, decide_true, Bool.true_or, Bool.or_true, true_and, and_true, kI_add, kI_sub, kI_mul, tn_add, Int.toNat_natCast, Int.reduceToNat, kI_le, kI_lt, kI_inj, decide_eq_true_eq, Bool.not_eq_true', decide_eq_false_iff_not, not_true_eq_false, not_false_eq_true, Classical.not_not, Bool.false_eq_true, if_true, if_false, z0, bI_k0, bI_k1, isB_b, isB_0, isB_1, kI_long, kd_stI, ln_stI, rv_stI, kJ_ndiv]
    by_cases z : w = 0
    · rw [if_neg (fun w => w z), if_pos z]
      (all_goals first | exact ⟨rfl, rfl⟩ | exact ⟨rfl, trivial⟩ | rfl | trivial)
    · rw [if_pos z, if_neg z]
      (all_goals first | exact ⟨rfl, rfl⟩ | exact ⟨rfl, trivial⟩ | rfl | trivial)
  have loop : ∀ (n i x r : Nat), Eu n x r → n + i ≤ 199 → x < 9223372036854775808 → r < 9223372036854775808 → Nat.gcd x r = Nat.gcd a b → Safe 0 m_X_inLowestTerms (9, [.long (kJ a), unV, .long (kJ b), unV, .int (kI w), .long (kJ x), unV, .long (kJ r), unV, .int (kI i), unV, unV], [], h) (fun v k => v = some (.long (kJ (((if w = 0 then a else b) / Nat.gcd a b : Nat) : Int))) ∧ k = h) := by
    intro n
    induction n with
    | zero =>
      intro i x r E hi hx hr hg
      have E' : r = 0 := E
      subst E'
      rw [Nat.gcd_zero_right] at hg
      subst hg
      refine s_X_inLowestTerms_9 ?_
      simp (disch := omega) only [cmp_eq0, cmp_eq, kJ_inj, ix_lit, inB_lit, decide_true, Bool.true_or, Bool.or_true, true_and, and_true, kI_add, kI_sub, kI_mul, tn_add, Int.toNat_natCast, Int.reduceToNat, kI_le, kI_lt, kI_inj, decide_eq_true_eq, Bool.not_eq_true', decide_eq_false_iff_not, not_true_eq_false, not_false_eq_true, Classical.not_not, Bool.false_eq_true, if_true, if_false, z0, bI_k0, bI_k1, isB_b, isB_0, isB_1, kI_long, kd_stI, ln_stI, rv_stI, Int.cast_ofNat_Int]
      rw [if_neg (by omega)]
      exact fin
    | succ n ih =>
      intro i x r E hi hx hr hg
      refine s_X_inLowestTerms_9 ?_
      by_cases q : r = 0
      · subst q
        rw [Nat.gcd_zero_right] at hg
        subst hg
        simp (disch := omega) only [cmp_eq0, cmp_eq, kJ_inj, ix_lit, inB_lit, decide_true, Bool.true_or, Bool.or_true, true_and, and_true, kI_add, kI_sub, kI_mul, tn_add, Int.toNat_natCast, Int.reduceToNat, kI_le, kI_lt, kI_inj, decide_eq_true_eq, Bool.not_eq_true', decide_eq_false_iff_not, not_true_eq_false, not_false_eq_true, Classical.not_not, Bool.false_eq_true, if_true, if_false, z0, bI_k0, bI_k1, isB_b, isB_0, isB_1, kI_long, kd_stI, ln_stI, rv_stI, Int.cast_ofNat_Int]
        rw [if_neg (by omega)]
        exact fin
      · have E' : Eu n r (x % r) := by
          rcases E with E | E
          · exact absurd E q
          · exact E
        have q' : ¬ (r : Int) = 0 := by omega
        have h1 : x % r < r := Nat.mod_lt _ (by omega)
        have er : kJ x - kJ x / kJ r * kJ r = kJ ((x % r : Nat) : Int) := kJ_rem (by omega) (by omega) (by omega)
        have := ih (i + 1) r (x % r) E' (by omega) hr (by omega) (by rw [gcd_step]; exact hg)
        simp (disch := omega) only [cmp_eq0, cmp_eq, kJ_inj, zJ0, ix_lit, inB_lit, decide_true, Bool.true_or, Bool.or_true, true_and, and_true, kI_add, kI_sub, kI_mul, tn_add, Int.toNat_natCast, Int.reduceToNat, kI_le, kI_lt, kI_inj, decide_eq_true_eq, Bool.not_eq_true', decide_eq_false_iff_not, not_true_eq_false, not_false_eq_true, Classical.not_not, Bool.false_eq_true, if_true, if_false, z0, bI_k0, bI_k1, isB_b, isB_0, isB_1, kI_long, kd_stI, ln_stI, rv_stI, q', er]
        rw [if_neg (by omega)]
        exact this
  exact loop 126 0 a b (Eu_of 63 a b (by have : 2 ^ 63 = 9223372036854775808 := by decide
                                         omega)) (by omega) ha hb rfl
/-! cell, hand, likely, likeliest, count, fault -/
def handsB (s : ST) (y : DY) (c : Nat) : Nat := bitsB (fun h => whyS s y h c == 0) (sH s)
def cellsB (s : ST) (y : DY) (h : Nat) : Nat := bitsB (fun c => whyS s y h c == 0) (sN s)
theorem why_may {s : ST} {y : DY} {h c : Nat} (hh : h < sH s) (hc : c < sN s) : (whyS s y h c == 0) = (!foundF y && mayF s h (yB y h) c (yD y) (yL y)) := by
  unfold whyS
  rw [if_pos ⟨⟨by omega, by omega⟩, ⟨by omega, by omega⟩⟩]
  simp only [Int.toNat_natCast]
  cases f : foundF y
  · simp only [Bool.false_eq_true, false_or, Bool.not_false, Bool.true_and]
    by_cases q : (yD y).testBit c = true
    · rw [if_pos q]
      unfold mayF
      rw [q]
      rfl
    · rw [if_neg q]
      by_cases g : mayF s h (yB y h) c (yD y) (yL y) = true
      · rw [if_pos g, g]; rfl
      · have g' : mayF s h (yB y h) c (yD y) (yL y) = false := by simpa using g
        rw [if_neg g, g']; rfl
  · rfl
def maskS (p : Nat → Bool) (i : Nat) : Nat := bitsB p i
theorem bitsB_s (p : Nat → Bool) (k : Nat) : bitsB p (k + 1) = bitsB p k ||| (if p k = true then 2 ^ k else 0) := rfl
theorem X_handsFor_g {T : Nat → Nat} {s : ST} {p : Nat} {y : DY} {v : Int} {hs : List DY} {nx : Nat} {h : AH} (B : BX T s p y v hs nx h) {c : Nat} (hc : c < sN s) : GI 6 m_X_handsFor [.ref 1, .int (kI c)] h (kI (handsB s y c)) (FG T h) := by
  have h4 := B.S.wf.2.2.2.2.2.1
  have n2 := B.S.wf.n12
  refine GIo (s_X_handsFor_0 ?_)
  suffices H : ∀ k, k ≤ sH s → ∀ h1, FG T h h1 → Safe 5 m_X_handsFor (4, [.ref 1, .int (kI c), .int (kI (bitsB (fun a => whyS s y a c == 0) k : Nat)), .int (kI k)], [], h1) (fun w h' => Eqv w (some (.int (kI (handsB s y c)))) ∧ FG T h h') by
    exact H 0 (by omega) h (FG_rfl T h)
  refine down_ind (sH s) ?_ ?_
  · intro h1 e1
    have B1 := B.scr e1 (fun a k w => Or.inl w)
    refine s_X_handsFor_4 ?_
    simp (disch := omega) only [kd_1 B1.F, B1.r, B1.S.k, B1.S.i4, ix_lit, inB_lit, decide_true, Bool.true_or, Bool.or_true, true_and, and_true, kI_add, kI_sub, kI_mul, tn_add, Int.toNat_natCast, Int.reduceToNat, kI_le, kI_lt, kI_inj, decide_eq_true_eq, Bool.not_eq_true', decide_eq_false_iff_not, not_true_eq_false, not_false_eq_true, Classical.not_not, Bool.false_eq_true, if_true, if_false, z0, bI_k0, bI_k1, isB_b, isB_0, isB_1, kI_long, kd_stI, ln_stI, rv_stI, Int.le_refl]
    exact ⟨rfl, e1⟩
  · intro k hk ih h1 e1
    have B1 := B.scr e1 (fun a k w => Or.inl w)
    refine s_X_handsFor_4 ?_
    simp (disch := omega) only [kd_1 B1.F, B1.r, rv_1_3 B1.F, kd_8 B1.F, B1.S.k, B1.S.i4, ix_lit, inB_lit, decide_true, Bool.true_or, Bool.or_true, true_and, and_true, kI_add, kI_sub, kI_mul, tn_add, Int.toNat_natCast, Int.reduceToNat, kI_le, kI_lt, kI_inj, decide_eq_true_eq, Bool.not_eq_true', decide_eq_false_iff_not, not_true_eq_false, not_false_eq_true, Classical.not_not, Bool.false_eq_true, if_true, if_false, z0, bI_k0, bI_k1, isB_b, isB_0, isB_1, kI_long, kd_stI, ln_stI, rv_stI]
    rw [if_neg (by omega)]
    refine GI.use (Pg_why_g B1.F B1.S PG8 B1.P B1.t B1.wy (by omega) (by omega) (by omega) (by omega)) (by omega) (fun h2 e2 => ?_)
    have wl := whyS_le s y k c
    have := ih h2 (e1.trans e2)
    rw [bitsB_s] at this
    simp (disch := omega) only [ix_lit, inB_lit, decide_true, Bool.true_or, Bool.or_true, true_and, and_true, kI_add, kI_sub, kI_mul, tn_add, Int.toNat_natCast, Int.reduceToNat, kI_le, kI_lt, kI_inj, decide_eq_true_eq, Bool.not_eq_true', decide_eq_false_iff_not, not_true_eq_false, not_false_eq_true, Classical.not_not, Bool.false_eq_true, if_true, if_false, z0, bI_k0, bI_k1, isB_b, isB_0, isB_1, kI_long, kd_stI, ln_stI, rv_stI, kI_shl1, kI_or]
    by_cases q : whyS s y k c = 0
    · rw [if_pos (by rw [q]; rfl)] at this
      rw [if_neg (by omega)]
      exact this
    · rw [if_neg (by simpa using q), Nat.or_zero] at this
      rw [if_pos (by omega)]
      exact this
theorem X_cellsFor_g {T : Nat → Nat} {s : ST} {p : Nat} {y : DY} {v : Int} {hs : List DY} {nx : Nat} {h : AH} (B : BX T s p y v hs nx h) {a : Nat} (ha : a < sH s) : GI 6 m_X_cellsFor [.ref 1, .int (kI a)] h (kI (cellsB s y a)) (FG T h) := by
  have h4 := B.S.wf.2.2.2.2.2.1
  have n2 := B.S.wf.n12
  refine GIo (s_X_cellsFor_0 ?_)
  suffices H : ∀ k, k ≤ sN s → ∀ h1, FG T h h1 → Safe 5 m_X_cellsFor (4, [.ref 1, .int (kI a), .int (kI (bitsB (fun c => whyS s y a c == 0) k : Nat)), .int (kI k)], [], h1) (fun w h' => Eqv w (some (.int (kI (cellsB s y a)))) ∧ FG T h h') by
    exact H 0 (by omega) h (FG_rfl T h)
  refine down_ind (sN s) ?_ ?_
  · intro h1 e1
    have B1 := B.scr e1 (fun a k w => Or.inl w)
    refine s_X_cellsFor_4 ?_
    simp (disch := omega) only [kd_1 B1.F, B1.r, B1.S.k, B1.S.i2, ix_lit, inB_lit, decide_true, Bool.true_or, Bool.or_true, true_and, and_true, kI_add, kI_sub, kI_mul, tn_add, Int.toNat_natCast, Int.reduceToNat, kI_le, kI_lt, kI_inj, decide_eq_true_eq, Bool.not_eq_true', decide_eq_false_iff_not, not_true_eq_false, not_false_eq_true, Classical.not_not, Bool.false_eq_true, if_true, if_false, z0, bI_k0, bI_k1, isB_b, isB_0, isB_1, kI_long, kd_stI, ln_stI, rv_stI, Int.le_refl]
    exact ⟨rfl, e1⟩
  · intro k hk ih h1 e1
    have B1 := B.scr e1 (fun a k w => Or.inl w)
    refine s_X_cellsFor_4 ?_
    simp (disch := omega) only [kd_1 B1.F, B1.r, rv_1_3 B1.F, kd_8 B1.F, B1.S.k, B1.S.i2, ix_lit, inB_lit, decide_true, Bool.true_or, Bool.or_true, true_and, and_true, kI_add, kI_sub, kI_mul, tn_add, Int.toNat_natCast, Int.reduceToNat, kI_le, kI_lt, kI_inj, decide_eq_true_eq, Bool.not_eq_true', decide_eq_false_iff_not, not_true_eq_false, not_false_eq_true, Classical.not_not, Bool.false_eq_true, if_true, if_false, z0, bI_k0, bI_k1, isB_b, isB_0, isB_1, kI_long, kd_stI, ln_stI, rv_stI]
    rw [if_neg (by omega)]
    refine GI.use (Pg_why_g B1.F B1.S PG8 B1.P B1.t B1.wy (by omega) (by omega) (by omega) (by omega)) (by omega) (fun h2 e2 => ?_)
    have wl := whyS_le s y a k
    have := ih h2 (e1.trans e2)
    rw [bitsB_s] at this
    simp (disch := omega) only [ix_lit, inB_lit, decide_true, Bool.true_or, Bool.or_true, true_and, and_true, kI_add, kI_sub, kI_mul, tn_add, Int.toNat_natCast, Int.reduceToNat, kI_le, kI_lt, kI_inj, decide_eq_true_eq, Bool.not_eq_true', decide_eq_false_iff_not, not_true_eq_false, not_false_eq_true, Classical.not_not, Bool.false_eq_true, if_true, if_false, z0, bI_k0, bI_k1, isB_b, isB_0, isB_1, kI_long, kd_stI, ln_stI, rv_stI, kI_shl1, kI_or]
    by_cases q : whyS s y a k = 0
    · rw [if_pos (by rw [q]; rfl)] at this
      rw [if_neg (by omega)]
      exact this
    · rw [if_neg (by simpa using q), Nat.or_zero] at this
      rw [if_pos (by omega)]
      exact this
theorem M_mayNow_g {s : ST} {y : DY} {h : AH} (C : MC s y h) {a c : Nat} (ha : a < sH s) (hc : c < sN s) : GI 6 m_M_mayNow [.ref 88, .int (kI a), .int (kI c)] h (bI32 ((whyS s y a c == 0) = true)) (Fr IM JM h) := by
  have F := C.fix
  have h4 := C.wf.2.2.2.2.2.1
  have n2 := C.wf.n12
  have hm := C.wy.m12 C.wf
  rw [why_may ha hc]
  refine GIo (s_M_mayNow_0 ?_)
  by_cases q : foundF y = true
  · simp (disch := omega) only [kd_88 F, rv_88_1 F, kd_89 F, ln_89 F, ix_lit, inB_lit, decide_true, Bool.true_or, Bool.or_true, true_and, and_true, kI_add, kI_sub, kI_mul, tn_add, Int.toNat_natCast, Int.reduceToNat, kI_le, kI_lt, kI_inj, decide_eq_true_eq, Bool.not_eq_true', decide_eq_false_iff_not, not_true_eq_false, not_false_eq_true, Classical.not_not, Bool.false_eq_true, if_true, if_false, z0, bI_k0, bI_k1, isB_b, isB_0, isB_1, kI_long, kd_stI, ln_stI, rv_stI, M_isFound_c C, q]
    exact ⟨rfl, Fr_rfl _ _ _⟩
  · have q' : foundF y = false := by simpa using q
    simp (disch := omega) only [kd_88 F, rv_88_1 F, kd_89 F, ln_89 F, ix_lit, inB_lit, decide_true, Bool.true_or, Bool.or_true, true_and, and_true, kI_add, kI_sub, kI_mul, tn_add, Int.toNat_natCast, Int.reduceToNat, kI_le, kI_lt, kI_inj, decide_eq_true_eq, Bool.not_eq_true', decide_eq_false_iff_not, not_true_eq_false, not_false_eq_true, Classical.not_not, Bool.false_eq_true, if_true, if_false, z0, bI_k0, bI_k1, isB_b, isB_0, isB_1, kI_long, kd_stI, ln_stI, rv_stI, M_isFound_c C, q', C.i22, C.i23, Bool.not_false, Bool.true_and]
    refine GI.use (M_mayDraw_g C (by omega) (by omega) hm C.wy.2.1) (by omega) (fun h8 e8 => ?_)
    simp (disch := omega) only [ix_lit, inB_lit, decide_true, Bool.true_or, Bool.or_true, true_and, and_true, kI_add, kI_sub, kI_mul, tn_add, Int.toNat_natCast, Int.reduceToNat, kI_le, kI_lt, kI_inj, decide_eq_true_eq, Bool.not_eq_true', decide_eq_false_iff_not, not_true_eq_false, not_false_eq_true, Classical.not_not, Bool.false_eq_true, if_true, if_false, z0, bI_k0, bI_k1, isB_b, isB_0, isB_1, kI_long, kd_stI, ln_stI, rv_stI]
    by_cases z : mayF s a (yB y a) c (yD y) (yL y) = true
    · rw [if_neg (fun w => w z), z]
      exact ⟨rfl, e8⟩
    · have z' : mayF s a (yB y a) c (yD y) (yL y) = false := by simpa using z
      rw [if_pos z, z']
      exact ⟨rfl, e8⟩
theorem M_handsOf_g {s : ST} {y : DY} {h : AH} (C : MC s y h) {c : Nat} (hc : c < sN s) : GI 7 m_M_handsOf [.ref 88, .int (kI c)] h (kI (handsB s y c)) (Fr IM JM h) := by
  have h4 := C.wf.2.2.2.2.2.1
  have n2 := C.wf.n12
  refine GIo (s_M_handsOf_0 ?_)
  suffices H : ∀ k, k ≤ sH s → ∀ h1, Fr IM JM h h1 → Safe 6 m_M_handsOf (4, [.ref 88, .int (kI c), .int (kI (bitsB (fun a => whyS s y a c == 0) k : Nat)), .int (kI k)], [], h1) (fun w h' => Eqv w (some (.int (kI (handsB s y c)))) ∧ Fr IM JM h h') by
    exact H 0 (by omega) h (Fr_rfl _ _ _)
  refine down_ind (sH s) ?_ ?_
  · intro h1 e1
    have C1 := C.fr e1
    have F1 := C1.fix
    refine s_M_handsOf_4 ?_
    simp (disch := omega) only [kd_88 F1, rv_88_1 F1, kd_89 F1, ln_89 F1, ix_lit, inB_lit, decide_true, Bool.true_or, Bool.or_true, true_and, and_true, kI_add, kI_sub, kI_mul, tn_add, Int.toNat_natCast, Int.reduceToNat, kI_le, kI_lt, kI_inj, decide_eq_true_eq, Bool.not_eq_true', decide_eq_false_iff_not, not_true_eq_false, not_false_eq_true, Classical.not_not, Bool.false_eq_true, if_true, if_false, z0, bI_k0, bI_k1, isB_b, isB_0, isB_1, kI_long, kd_stI, ln_stI, rv_stI, C1.i3, Int.le_refl]
    exact ⟨rfl, e1⟩
  · intro k hk ih h1 e1
    have C1 := C.fr e1
    have F1 := C1.fix
    refine s_M_handsOf_4 ?_
    simp (disch := omega) only [kd_88 F1, rv_88_1 F1, kd_89 F1, ln_89 F1, ix_lit, inB_lit, decide_true, Bool.true_or, Bool.or_true, true_and, and_true, kI_add, kI_sub, kI_mul, tn_add, Int.toNat_natCast, Int.reduceToNat, kI_le, kI_lt, kI_inj, decide_eq_true_eq, Bool.not_eq_true', decide_eq_false_iff_not, not_true_eq_false, not_false_eq_true, Classical.not_not, Bool.false_eq_true, if_true, if_false, z0, bI_k0, bI_k1, isB_b, isB_0, isB_1, kI_long, kd_stI, ln_stI, rv_stI, C1.i3]
    rw [if_neg (by omega)]
    refine GI.use (M_mayNow_g C1 hk hc) (by omega) (fun h2 e2 => ?_)
    have := ih h2 (e1.trans e2)
    rw [bitsB_s] at this
    simp (disch := omega) only [ix_lit, inB_lit, decide_true, Bool.true_or, Bool.or_true, true_and, and_true, kI_add, kI_sub, kI_mul, tn_add, Int.toNat_natCast, Int.reduceToNat, kI_le, kI_lt, kI_inj, decide_eq_true_eq, Bool.not_eq_true', decide_eq_false_iff_not, not_true_eq_false, not_false_eq_true, Classical.not_not, Bool.false_eq_true, if_true, if_false, z0, bI_k0, bI_k1, isB_b, isB_0, isB_1, kI_long, kd_stI, ln_stI, rv_stI, kI_shl1]
    by_cases q : (whyS s y k c == 0) = true
    · rw [if_pos q] at this
      rw [if_neg (fun w => w q)]
      refine s_M_handsOf_31 ?_
      rw [kI_or, kI_add]
      exact this
    · rw [if_neg q] at this
      rw [if_pos q]
      refine s_M_handsOf_31 ?_
      rw [show kI 0 = kI ((0 : Nat) : Int) from rfl, kI_or, kI_add]
      exact this
theorem M_cellsOf_g {s : ST} {y : DY} {h : AH} (C : MC s y h) {a : Nat} (ha : a < sH s) : GI 7 m_M_cellsOf [.ref 88, .int (kI a)] h (kI (cellsB s y a)) (Fr IM JM h) := by
  have h4 := C.wf.2.2.2.2.2.1
  have n2 := C.wf.n12
  refine GIo (s_M_cellsOf_0 ?_)
  suffices H : ∀ k, k ≤ sN s → ∀ h1, Fr IM JM h h1 → Safe 6 m_M_cellsOf (4, [.ref 88, .int (kI a), .int (kI (bitsB (fun c => whyS s y a c == 0) k : Nat)), .int (kI k)], [], h1) (fun w h' => Eqv w (some (.int (kI (cellsB s y a)))) ∧ Fr IM JM h h') by
    exact H 0 (by omega) h (Fr_rfl _ _ _)
  refine down_ind (sN s) ?_ ?_
  · intro h1 e1
    have C1 := C.fr e1
    refine s_M_cellsOf_4 ?_
    simp (disch := omega) only [kd_88 C1.fix, M_cells_c C1, ix_lit, inB_lit, decide_true, Bool.true_or, Bool.or_true, true_and, and_true, kI_add, kI_sub, kI_mul, tn_add, Int.toNat_natCast, Int.reduceToNat, kI_le, kI_lt, kI_inj, decide_eq_true_eq, Bool.not_eq_true', decide_eq_false_iff_not, not_true_eq_false, not_false_eq_true, Classical.not_not, Bool.false_eq_true, if_true, if_false, z0, bI_k0, bI_k1, isB_b, isB_0, isB_1, kI_long, kd_stI, ln_stI, rv_stI, Int.le_refl]
    exact ⟨rfl, e1⟩
  · intro k hk ih h1 e1
    have C1 := C.fr e1
    refine s_M_cellsOf_4 ?_
    simp (disch := omega) only [kd_88 C1.fix, M_cells_c C1, ix_lit, inB_lit, decide_true, Bool.true_or, Bool.or_true, true_and, and_true, kI_add, kI_sub, kI_mul, tn_add, Int.toNat_natCast, Int.reduceToNat, kI_le, kI_lt, kI_inj, decide_eq_true_eq, Bool.not_eq_true', decide_eq_false_iff_not, not_true_eq_false, not_false_eq_true, Classical.not_not, Bool.false_eq_true, if_true, if_false, z0, bI_k0, bI_k1, isB_b, isB_0, isB_1, kI_long, kd_stI, ln_stI, rv_stI]
    rw [if_neg (by omega)]
    refine GI.use (M_mayNow_g C1 ha hk) (by omega) (fun h2 e2 => ?_)
    have := ih h2 (e1.trans e2)
    rw [bitsB_s] at this
    simp (disch := omega) only [ix_lit, inB_lit, decide_true, Bool.true_or, Bool.or_true, true_and, and_true, kI_add, kI_sub, kI_mul, tn_add, Int.toNat_natCast, Int.reduceToNat, kI_le, kI_lt, kI_inj, decide_eq_true_eq, Bool.not_eq_true', decide_eq_false_iff_not, not_true_eq_false, not_false_eq_true, Classical.not_not, Bool.false_eq_true, if_true, if_false, z0, bI_k0, bI_k1, isB_b, isB_0, isB_1, kI_long, kd_stI, ln_stI, rv_stI, kI_shl1]
    by_cases q : (whyS s y a k == 0) = true
    · rw [if_pos q] at this
      rw [if_neg (fun w => w q)]
      refine s_M_cellsOf_29 ?_
      rw [kI_or, kI_add]
      exact this
    · rw [if_neg q] at this
      rw [if_pos q]
      refine s_M_cellsOf_29 ?_
      rw [show kI 0 = kI ((0 : Nat) : Int) from rfl, kI_or, kI_add]
      exact this
