/-! rows and ends of the reference -/
abbrev tt1 : Nat → Bool := fun _ => true
def rowV (s : ST) (y : DY) (a n : Nat) : Nat := sumF (fun k => if pop (k / 13) = n + pop (yD y) then Wy s y a a tt1 (k / 13) (k % 13) else 0) 53248
def endV (s : ST) (y : DY) (a : Nat) : Nat := sumF (fun k => if mvG s y a a (k / 13) (k % 13) = 0 then Wy s y a a tt1 (k / 13) (k % 13) else 0) 53248
def rowA (s : ST) (y : DY) (a n : Int) : Int := if 0 ≤ a ∧ a < sH s then (if 0 ≤ n ∧ n ≤ 12 then (rowV s y a.toNat n.toNat : Nat) else -3) else -2
def endA (s : ST) (y : DY) (a : Int) : Int := if 0 ≤ a ∧ a < sH s then (endV s y a.toNat : Nat) else -2
theorem M_rows_g {s : ST} {y : DY} {h : AH} (C0 : MC s y h) {a n : Int} (a1 : -2147483648 ≤ a) (a2 : a ≤ 2147483647) (n1 : -2147483648 ≤ n) (n2 : n ≤ 2147483647) : GJ 9 m_M_rows [.ref 88, .int (kI a), .int (kI n)] h (kJ (rowA s y a n)) (FRc h) := by
  have F := C0.fix
  have C : MC s y (stI h 88 0 (kI 0)) := C0.fr (f88 h)
  have n4 := C.wf.2.2.2.2.2.1
  have hD := C.wy.m12 C.wf
  have pD := pop_le (yD y)
  refine GJo (s_M_rows_0 ⟨by rw [kd_88 F]; rfl, by rw [kd_stI, kd_88 F]; rfl, ?_⟩)
  unfold rowA
  rw [kI_long (by omega) (by omega), M_isHand_c C (by omega) (by omega) (by omega)]
  by_cases q1 : 0 ≤ a ∧ a < sH s
  · obtain ⟨A, rfl⟩ : ∃ A : Nat, a = A := ⟨a.toNat, by omega⟩
    rw [if_pos (by rw [Bool.not_eq_true', decide_eq_false_iff_not, bI_0]; exact fun z => z q1), if_pos q1, kI_long (by omega) (by omega), M_within_c (by omega) (by omega) (by omega) (by omega) (by omega) (by omega) (by omega)]
    by_cases q2 : 0 ≤ n ∧ n ≤ 12
    · obtain ⟨N, rfl⟩ : ∃ N : Nat, n = N := ⟨n.toNat, by omega⟩
      rw [if_pos (by rw [Bool.not_eq_true', decide_eq_false_iff_not, bI_0]; exact fun z => z q2), if_pos q2]
      refine ⟨by rw [kd_88 C.fix]; rfl, by rw [kd_88 C.fix]; rfl, ?_⟩
      rw [rv_88_21 C.fix]
      refine GV.use (M_laysMays_g C (show A < 4 by omega) (Or.inl rfl)) (by omega) (fun h3 e3 => ?_)
      have C3 := C.my e3.1 (by omega)
      refine ⟨by rw [kd_88 C3.fix]; rfl, ?_⟩
      refine GV.use (M_laysMany_g C3 (but := -1) (by omega) (by omega) e3.2) (by omega) (fun h4 e4 => ?_)
      obtain ⟨e4, T4⟩ := e4
      have C4 := C3.f100 e4
      have F4 := C4.fix
      have f4 : FRc h h4 := (f0rc h).trans ((my_rc e3.1).trans (f100_rc e4))
      replace T4 : TB (Wy s y A A tt1) h4 := by rw [btF_no] at T4; exact T4
      rw [Int.toNat_natCast, Int.toNat_natCast]
      suffices H : ∀ k, k ≤ 53248 → Safe 8 m_M_rows (53, [.ref 88, unV, .int (kI (N : Int)), .long (kJ (sumF (fun k => if pop (k / 13) = N + pop (yD y) then Wy s y A A tt1 (k / 13) (k % 13) else 0) k : Nat)), unV, .int (kI k)], [], h4) (fun v h' => Eqv v (some (.long (kJ (rowV s y A N : Nat)))) ∧ FRc h h') by
        exact H 0 (by omega)
      refine down_ind 53248 ?_ ?_
      · refine s_M_rows_53 ?_
        rw [if_pos (by decide)]
        exact ⟨rfl, f4⟩
      · intro k hk ih
        have ed : kI (k : Int) / kI 13 = kI ((k / 13 : Nat) : Int) := kI_ndiv (a := k) (b := 13) (by omega) (by omega) (by omega)
        have pk := pop_le (k / 13)
        have e := T4 (k / 13) (k % 13) (by omega) (by omega)
        rw [show 13 * (k / 13) + k % 13 = k by omega] at e
        refine s_M_rows_53 ?_
        rw [if_neg (by rw [decide_eq_true_eq, kI_le (by omega) (by omega) (by omega) (by omega)]; omega), ed]
        refine ⟨by decide, ?_⟩
        rw [M_bits_c (by omega) (by omega), rv_88_1 F4, kd_88 F4, kd_89 F4, ln_89 F4, show ix (kI 22) = 22 from rfl, C4.i22]
        refine ⟨rfl, rfl, by decide, ?_⟩
        rw [M_bits_c (by omega) (by omega), kI_add]
        rw [sumF_s] at ih
        by_cases q : pop (k / 13) = N + pop (yD y)
        · rw [if_neg (by rw [q]; simp), rv_88_25 F4, kd_88 F4, kd_100 F4, ln_100 F4, ix_kI (by omega), e]
          refine ⟨rfl, rfl, inB_kI (by omega) hk, ?_⟩
          refine s_M_rows_95 ?_
          rw [kJ_add, kI_add]
          rw [if_pos q] at ih
          exact ih
        · rw [if_pos (by rw [Bool.not_eq_true', decide_eq_false_iff_not, kI_inj (by omega) (by omega) (by omega) (by omega)]; omega)]
          refine s_M_rows_95 ?_
          rw [kJ_add, kI_add]
          rw [if_neg q] at ih
          exact ih
    · rw [if_neg (by rw [Bool.not_eq_true', decide_eq_false_iff_not, bI_0]; exact fun z => z q2), if_neg q2]
      exact ⟨rfl, f0rc h⟩
  · rw [if_neg (by rw [Bool.not_eq_true', decide_eq_false_iff_not, bI_0]; exact fun z => z q1), if_neg q1]
    exact ⟨rfl, f0rc h⟩
theorem M_ends_g {s : ST} {y : DY} {h : AH} (C0 : MC s y h) {a : Int} (a1 : -2147483648 ≤ a) (a2 : a ≤ 2147483647) : GJ 9 m_M_ends [.ref 88, .int (kI a)] h (kJ (endA s y a)) (FRc h) := by
  have F := C0.fix
  have C : MC s y (stI h 88 0 (kI 0)) := C0.fr (f88 h)
  have n4 := C.wf.2.2.2.2.2.1
  have hD := C.wy.m12 C.wf
  refine GJo (s_M_ends_0 ⟨by rw [kd_88 F]; rfl, by rw [kd_stI, kd_88 F]; rfl, ?_⟩)
  unfold endA
  rw [kI_long (by omega) (by omega), M_isHand_c C (by omega) (by omega) (by omega)]
  by_cases q1 : 0 ≤ a ∧ a < sH s
  · obtain ⟨A, rfl⟩ : ∃ A : Nat, a = A := ⟨a.toNat, by omega⟩
    rw [if_pos (by rw [Bool.not_eq_true', decide_eq_false_iff_not, bI_0]; exact fun z => z q1), if_pos q1]
    refine ⟨by rw [kd_88 C.fix]; rfl, by rw [kd_88 C.fix]; rfl, ?_⟩
    rw [rv_88_21 C.fix]
    refine GV.use (M_laysMays_g C (show A < 4 by omega) (Or.inl rfl)) (by omega) (fun h3 e3 => ?_)
    have C3 := C.my e3.1 (by omega)
    refine ⟨by rw [kd_88 C3.fix]; rfl, ?_⟩
    refine GV.use (M_laysMany_g C3 (but := -1) (by omega) (by omega) e3.2) (by omega) (fun h4 e4 => ?_)
    obtain ⟨e4, T4⟩ := e4
    have C4 := C3.f100 e4
    have F4 := C4.fix
    have M4 : Mays s y A 96 (yD y) h4 := e3.2.fr e4 (fun k w => w)
    have f4 : FRc h h4 := (f0rc h).trans ((my_rc e3.1).trans (f100_rc e4))
    replace T4 : TB (Wy s y A A tt1) h4 := by rw [btF_no] at T4; exact T4
    rw [Int.toNat_natCast]
    suffices H : ∀ k, k ≤ 53248 → Safe 8 m_M_ends (37, [.ref 88, unV, .long (kJ (sumF (fun k => if mvG s y A A (k / 13) (k % 13) = 0 then Wy s y A A tt1 (k / 13) (k % 13) else 0) k : Nat)), unV, .int (kI k)], [], h4) (fun v h' => Eqv v (some (.long (kJ (endV s y A : Nat)))) ∧ FRc h h') by
      exact H 0 (by omega)
    refine down_ind 53248 ?_ ?_
    · refine s_M_ends_37 ?_
      rw [if_pos (by decide)]
      exact ⟨rfl, f4⟩
    · intro k hk ih
      have e := T4 (k / 13) (k % 13) (by omega) (by omega)
      rw [show 13 * (k / 13) + k % 13 = k by omega] at e
      have cl : Wy s y A A tt1 (k / 13) (k % 13) < 9223372036854775808 := CW_lt (by omega)
      refine s_M_ends_37 ?_
      rw [if_neg (by rw [decide_eq_true_eq, kI_le (by omega) (by omega) (by omega) (by omega)]; omega), rv_88_25 F4, kd_88 F4, kd_100 F4, ln_100 F4, ix_kI (by omega), e]
      refine ⟨rfl, rfl, inB_kI (by omega) hk, ?_⟩
      rw [sumF_s] at ih
      by_cases qz : Wy s y A A tt1 (k / 13) (k % 13) = 0
      · rw [if_pos (by rw [decide_eq_true_eq, cmp_le, kJ_le (by omega) (by omega) (by omega) (by omega)]; omega)]
        refine s_M_ends_77 (s_M_ends_78 ?_)
        rw [kJ_add, kI_add]
        have z : (if mvG s y A A (k / 13) (k % 13) = 0 then Wy s y A A tt1 (k / 13) (k % 13) else 0) = 0 := by
          rw [qz]; split <;> rfl
        rw [z] at ih
        exact ih
      · rw [if_neg (by rw [decide_eq_true_eq, cmp_le, kJ_le (by omega) (by omega) (by omega) (by omega)]; omega)]
        obtain ⟨cb, g1, g2⟩ := CW_cb C.wf C.wy (Nat.pos_of_ne_zero qz)
        have e96 : ivA h4 96 k = kI (mvG s y A A (k / 13) (k % 13)) := by
          have := M4 (k / 13) (k % 13) (le_of_sub (subB_iff.mp cb.1)) g1 g2 cb
          rw [show 13 * (k / 13) + k % 13 = k by omega] at this
          rw [mvG_same]
          exact this
        have mvl := mvG_lt C.wf y A A (k / 13) (k % 13)
        rw [rv_88_21 F4, kd_96 F4, ln_96 F4, e96]
        refine ⟨rfl, rfl, inB_kI (by omega) hk, ?_⟩
        by_cases q : mvG s y A A (k / 13) (k % 13) = 0
        · rw [if_neg (by rw [q]; decide)]
          refine ⟨rfl, rfl, inB_kI (by omega) hk, ?_⟩
          refine s_M_ends_78 ?_
          rw [kJ_add, kI_add]
          rw [if_pos q] at ih
          exact ih
        · rw [if_pos (by rw [Bool.not_eq_true', decide_eq_false_iff_not, z0, kI_inj (by omega) (by omega) (by omega) (by omega)]; omega)]
          refine s_M_ends_77 (s_M_ends_78 ?_)
          rw [kJ_add, kI_add]
          rw [if_neg q] at ih
          exact ih
  · rw [if_neg (by rw [Bool.not_eq_true', decide_eq_false_iff_not, bI_0]; exact fun z => z q1), if_neg q1]
    exact ⟨rfl, f0rc h⟩
/-! chances -/
def cnF (mv : Nat → Nat → Nat) : Nat → Nat → Nat → Nat → Nat
  | 0, c, m, _ => if m.testBit c = true then 1 else 0
  | n + 1, c, m, l => if m.testBit c = true then 27720 ^ (n + 1) else sumF (fun k => if (mv m l).testBit k = true then 27720 / pop (mv m l) * cnF mv n c (m ||| 2 ^ k) k else 0) 12
theorem cnF_s (mv : Nat → Nat → Nat) (n c m l : Nat) : cnF mv (n + 1) c m l = if m.testBit c = true then 27720 ^ (n + 1) else sumF (fun k => if (mv m l).testBit k = true then 27720 / pop (mv m l) * cnF mv n c (m ||| 2 ^ k) k else 0) 12 := rfl
theorem sumF_cnt {p : Nat → Bool} {f : Nat → Nat} {v : Nat} (h : ∀ k, p k = true → f k ≤ v) : ∀ n, sumF (fun k => if p k = true then f k else 0) n ≤ cnt p n * v
  | 0 => Nat.zero_le _
  | n + 1 => by
    have ih := sumF_cnt h n
    rw [sumF_s, cnt_s]
    by_cases q : p n = true
    · have := h n q
      rw [if_pos q, if_pos q, Nat.add_mul, Nat.one_mul]
      omega
    · rw [if_neg q, if_neg q, Nat.add_zero, Nat.add_zero]
      exact ih
theorem cnF_le (mv : Nat → Nat → Nat) : ∀ n c m l, cnF mv n c m l ≤ 27720 ^ n := by
  intro n
  induction n with
  | zero =>
    intro c m l
    show (if m.testBit c = true then 1 else 0) ≤ 1
    split <;> omega
  | succ n ih =>
    intro c m l
    rw [cnF_s]
    split
    · exact Nat.le_refl _
    · refine Nat.le_trans (sumF_cnt (p := (mv m l).testBit) (v := 27720 / pop (mv m l) * 27720 ^ n) (fun k _ => Nat.mul_le_mul_left _ (ih c _ k)) 12) ?_
      show pop (mv m l) * (27720 / pop (mv m l) * 27720 ^ n) ≤ 27720 ^ (n + 1)
      rw [← Nat.mul_assoc, Nat.pow_succ, Nat.mul_comm (27720 ^ n)]
      exact Nat.mul_le_mul_right _ (Nat.mul_div_le _ _)
theorem p27 {n : Nat} (hn : n ≤ 4) : 27720 ^ n ≤ 590436101122560000 ∧ 1 ≤ 27720 ^ n := by
  have e : n = 0 ∨ n = 1 ∨ n = 2 ∨ n = 3 ∨ n = 4 := by omega
  rcases e with rfl | rfl | rfl | rfl | rfl <;> decide
theorem M_wholeOf_c {d : Nat} (hd : 1 ≤ d) {h : AH} {n : Nat} (hn : n ≤ 4) {K : Int64 → AH → Prop} : CallJ d m_M_wholeOf [.int (kI n)] h K ↔ K (kJ ((27720 ^ n : Nat) : Int)) h := by
  refine Ret.J (d := 1) (ret_of (s_M_wholeOf_0 ?_)) hd
  suffices H : ∀ k, k ≤ n → Safe 0 m_M_wholeOf (4, [.int (kI n), .long (kJ ((27720 ^ k : Nat) : Int)), unV, .int (kI k)], [], h) (fun v k => v = some (.long (kJ ((27720 ^ n : Nat) : Int))) ∧ k = h) by
    exact H 0 (by omega)
  refine down_ind n ?_ ?_
  · refine s_M_wholeOf_4 ?_
    rw [if_pos (by rw [decide_eq_true_eq, kI_le (by omega) (by omega) (by omega) (by omega)]; omega)]
    exact ⟨rfl, rfl⟩
  · intro k hk ih
    refine s_M_wholeOf_4 ?_
    rw [if_neg (by rw [decide_eq_true_eq, kI_le (by omega) (by omega) (by omega) (by omega)]; omega), kJ_mul, kI_add]
    rw [Nat.pow_succ] at ih
    exact ih
theorem M_commonOf_c {h : AH} : ∀ (n : Nat) {d : Nat} (_ : n + 1 ≤ d) {a b : Nat} (_ : Eu n a b) (_ : a < 9223372036854775808) (_ : b < 9223372036854775808) {K : Int64 → AH → Prop}, CallJ d m_M_commonOf [.long (kJ a), .long (kJ b)] h K ↔ K (kJ (Nat.gcd a b)) h
  | n, d, hd, a, b, E, ha, hb, K => by
    by_cases q : b = 0
    · refine Ret.J (d := 1) (ret_of (s_M_commonOf_0 ?_)) (by omega)
      subst q
      rw [if_neg (by decide), Nat.gcd_zero_right]
      exact ⟨rfl, rfl⟩
    · match n, hd, E with
      | 0, _, E => exact absurd E q
      | n + 1, hd, E =>
        have E' : Eu n b (a % b) := by
          rcases E with E | E
          · exact absurd E q
          · exact E
        refine Ret.J (d := n + 2) (ret_of (s_M_commonOf_0 ?_)) (by omega)
        have h1 : a % b < b := Nat.mod_lt _ (by omega)
        rw [if_pos (by rw [Bool.not_eq_true', decide_eq_false_iff_not, cmp_eq, kJ_inj (by omega) (by omega) (by omega) (by omega)]; omega)]
        refine ⟨by rw [Bool.not_eq_true', decide_eq_false_iff_not, zJ0, kJ_inj (by omega) (by omega) (by omega) (by omega)]; omega, ?_⟩
        rw [kJ_rem (by omega) (by omega) (by omega), M_commonOf_c (h := h) n (d := n + 1) (by omega) E' hb (by omega), gcd_step]
        exact ⟨rfl, rfl⟩
theorem pop_pos {m c : Nat} (hc : c < 12) (h : m.testBit c = true) : 1 ≤ pop m := by
  have := pop_or hc (xor_no h)
  rw [xor_or h] at this
  omega
theorem M_chanceOf_g {s : ST} {y : DY} {a : Nat} (ha : a < 4) {c : Nat} (hc : c < sN s) : ∀ (n : Nat), n ≤ 4 → ∀ {h : AH} (_ : MC s y h) {m l : Nat} (_ : m < 2 ^ sN s) (_ : l = 12 ∨ l < sN s), GJ (n + 6) m_M_chanceOf [.ref 88, .int (kI a), .int (kI c), .int (kI n), .int (kI m), .int (kI l)] h (kJ (cnF (mvF s a (yB y a)) n c m l : Nat)) (Fr IM JM h) := by
  intro n
  induction n with
  | zero =>
    intro _ h C m l hm hl
    have n2 := C.wf.n12
    have m12 : m < 4096 := Nat.lt_of_lt_of_le hm (Nat.pow_le_pow_right (n := 2) (by omega) n2)
    refine GJo (s_M_chanceOf_0 ?_)
    rw [kI_long (by omega) (by omega), M_isIn_c (by omega) (by omega) (by omega)]
    show if decide (bI32 (m.testBit c = true) = 0) = true then _ else _
    have e : cnF (mvF s a (yB y a)) 0 c m l = if m.testBit c = true then 1 else 0 := rfl
    rw [e]
    by_cases q : m.testBit c = true
    · rw [if_neg (by rw [dec_b0]; exact fun z => z q), if_pos q, M_wholeOf_c (by omega) (by omega)]
      exact ⟨rfl, Fr_rfl _ _ _⟩
    · rw [if_pos (by rw [dec_b0]; exact q), if_neg q, if_neg (by decide)]
      exact ⟨rfl, Fr_rfl _ _ _⟩
  | succ n ih =>
    intro hn h C m l hm hl
    have n2 := C.wf.n12
    have m12 : m < 4096 := Nat.lt_of_lt_of_le hm (Nat.pow_le_pow_right (n := 2) (by omega) n2)
    have l12 : l ≤ 12 := by omega
    refine GJo (s_M_chanceOf_0 ?_)
    rw [kI_long (by omega) (by omega), M_isIn_c (by omega) (by omega) (by omega), cnF_s]
    by_cases q : m.testBit c = true
    · rw [if_neg (by rw [dec_b0]; exact fun z => z q), if_pos q, M_wholeOf_c (by omega) (by omega)]
      exact ⟨rfl, Fr_rfl _ _ _⟩
    · rw [if_pos (by rw [dec_b0]; exact q), if_neg q, if_pos (by rw [Bool.not_eq_true', decide_eq_false_iff_not, z0, kI_inj (by omega) (by omega) (by omega) (by omega)]; omega)]
      obtain ⟨mv, hmv⟩ : ∃ mv, mv = mvF s a (yB y a) m l := ⟨_, rfl⟩
      have mvl : mv < 4096 := by rw [hmv]; exact mvF_lt C.wf _ _ _ _
      have mvN : ∀ k, mv.testBit k = true → k < sN s ∧ m.testBit k = false := fun k hk => by rw [hmv] at hk; exact mvF_ok C.wf hk
      rw [← hmv]
      suffices H : ∀ k, k ≤ sN s → ∀ h2, Fr IM JM h h2 → Safe (n + 1 + 5) m_M_chanceOf (30, [.ref 88, .int (kI a), .int (kI c), .int (kI ((n + 1 : Nat) : Int)), .int (kI m), .int (kI l), .long (kJ 0), unV, .int (kI (bitsB (fun c => mayF s a (yB y a) c m l) k : Nat)), .int (kI k)], [], h2) (fun v h' => Eqv v (some (.long (kJ ((sumF (fun k => if mv.testBit k = true then 27720 / pop mv * cnF (mvF s a (yB y a)) n c (m ||| 2 ^ k) k else 0) 12 : Nat) : Int)))) ∧ Fr IM JM h h') by
        exact H 0 (by omega) h (Fr_rfl _ _ _)
      refine down_ind (sN s) ?_ ?_
      · intro h2 e2
        have C2 := C.fr e2
        refine s_M_chanceOf_30 ?_
        refine ⟨by rw [kd_88 C2.fix]; rfl, ?_⟩
        rw [M_cells_c C2 (by omega), if_pos (by rw [decide_eq_true_eq, kI_le (by omega) (by omega) (by omega) (by omega)]; omega), show bitsB (fun c => mayF s a (yB y a) c m l) (sN s) = mv from hmv.symm]
        have hi : ∀ k, sN s ≤ k → (if mv.testBit k = true then 27720 / pop mv * cnF (mvF s a (yB y a)) n c (m ||| 2 ^ k) k else 0) = 0 := fun k hk => by
          rw [if_neg]
          intro z
          have := (mvN k z).1
          omega
        have fin : sumF (fun k => if mv.testBit k = true then 27720 / pop mv * cnF (mvF s a (yB y a)) n c (m ||| 2 ^ k) k else 0) (sN s) = sumF (fun k => if mv.testBit k = true then 27720 / pop mv * cnF (mvF s a (yB y a)) n c (m ||| 2 ^ k) k else 0) 12 := by
          have := fold_up (F := sumF (fun k => if mv.testBit k = true then 27720 / pop mv * cnF (mvF s a (yB y a)) n c (m ||| 2 ^ k) k else 0)) (ok := mv.testBit) (fun k hk => by rw [sumF_s]; simp [hk]) (n := sN s) (fun k hk => by
            cases z : mv.testBit k
            · rfl
            · have := (mvN k z).1; omega) (12 - sN s)
          rw [show sN s + (12 - sN s) = 12 by omega] at this
          exact this.symm
        rw [← fin]
        suffices H : ∀ k, k ≤ sN s → ∀ h3, Fr IM JM h h3 → Safe (n + 1 + 5) m_M_chanceOf (75, [.ref 88, .int (kI a), .int (kI c), .int (kI ((n + 1 : Nat) : Int)), .int (kI m), unV, .long (kJ ((sumF (fun k => if mv.testBit k = true then 27720 / pop mv * cnF (mvF s a (yB y a)) n c (m ||| 2 ^ k) k else 0) k : Nat) : Int)), unV, .int (kI mv), .int (kI k)], [], h3) (fun v h' => Eqv v (some (.long (kJ ((sumF (fun k => if mv.testBit k = true then 27720 / pop mv * cnF (mvF s a (yB y a)) n c (m ||| 2 ^ k) k else 0) (sN s) : Nat) : Int)))) ∧ Fr IM JM h h') by
          exact H 0 (by omega) h2 e2
        refine down_ind (sN s) ?_ ?_
        · intro h3 e3
          have C3 := C.fr e3
          refine s_M_chanceOf_75 ?_
          refine ⟨by rw [kd_88 C3.fix]; rfl, ?_⟩
          rw [M_cells_c C3 (by omega), if_pos (by rw [decide_eq_true_eq, kI_le (by omega) (by omega) (by omega) (by omega)]; omega)]
          exact ⟨rfl, e3⟩
        · intro k hk ih2 h3 e3
          have C3 := C.fr e3
          refine s_M_chanceOf_75 ?_
          refine ⟨by rw [kd_88 C3.fix]; rfl, ?_⟩
          rw [M_cells_c C3 (by omega), if_neg (by rw [decide_eq_true_eq, kI_le (by omega) (by omega) (by omega) (by omega)]; omega), kI_long (by omega) (by omega), M_isIn_c (by omega) (by omega) (by omega)]
          rw [sumF_s] at ih2
          by_cases qb : mv.testBit k = true
          · have nb := mvN k qb
            have pp := pop_pos (show k < 12 by omega) qb
            have pl := pop_le mv
            rw [if_neg (by rw [dec_b0]; exact fun z => z qb), M_bits_c (by omega) (by omega), kI_long (by omega) (by omega)]
            refine ⟨by rw [Bool.not_eq_true', decide_eq_false_iff_not, zJ0, kJ_inj (by omega) (by omega) (by omega) (by omega)]; omega, by rw [kd_88 C3.fix]; rfl, ?_⟩
            rw [kI_sub, kI_shl1 (by omega), kI_or, show ((n + 1 : Nat) : Int) - 1 = (n : Int) by omega]
            refine GJ.use (ih (by omega) C3 (or_lt2 hm nb.1) (Or.inr nb.1)) (by omega) (fun h4 e4 => ?_)
            have ed : kJ 27720 / kJ (pop mv : Int) = kJ ((27720 / pop mv : Nat) : Int) := kJ_ndiv (a := 27720) (by omega) (by omega) (by omega)
            rw [ed, kJ_mul, kJ_add, kI_add]
            have := ih2 h4 (e3.trans e4)
            rw [if_pos qb] at this
            exact this
          · rw [if_pos (by rw [dec_b0]; exact qb), kI_add]
            have := ih2 h3 e3
            rw [if_neg qb, Nat.add_zero] at this
            exact this
      · intro k hk ih2 h2 e2
        have C2 := C.fr e2
        refine s_M_chanceOf_30 ?_
        refine ⟨by rw [kd_88 C2.fix]; rfl, ?_⟩
        rw [M_cells_c C2 (by omega), if_neg (by rw [decide_eq_true_eq, kI_le (by omega) (by omega) (by omega) (by omega)]; omega)]
        refine ⟨by rw [kd_88 C2.fix]; rfl, ?_⟩
        refine GI.use (M_mayDraw_g C2 ha hk (by omega) hl) (by omega) (fun h3 e3 => ?_)
        have := ih2 h3 (e2.trans e3)
        rw [bitsB_s] at this
        by_cases qm : mayF s a (yB y a) k m l = true
        · rw [if_neg (by rw [dec_b0]; exact fun z => z qm)]
          rw [if_pos qm] at this
          refine s_M_chanceOf_63 ?_
          rw [kI_shl1 (by omega), kI_or, kI_add]
          exact this
        · rw [if_pos (by rw [dec_b0]; exact qm)]
          rw [if_neg qm] at this
          refine s_M_chanceOf_63 ?_
          rw [show kI 0 = kI ((0 : Nat) : Int) from rfl, kI_or, kI_add]
          exact this
/-! chance and latest of the reference -/
def chaA (s : ST) (y : DY) (a c n wh : Int) : Int := if (0 ≤ a ∧ a < sH s) ∧ (0 ≤ c ∧ c < sN s) ∧ (0 ≤ wh ∧ wh ≤ 1) then (if 0 ≤ n ∧ n ≤ 4 then (((if wh = 0 then cnF (mvF s a.toNat (yB y a.toNat)) n.toNat c.toNat (yD y) (yL y) else 27720 ^ n.toNat) / Nat.gcd (cnF (mvF s a.toNat (yB y a.toNat)) n.toNat c.toNat (yD y) (yL y)) (27720 ^ n.toNat) : Nat) : Int) else -3) else -2
theorem M_chance_g {s : ST} {y : DY} {h : AH} (C0 : MC s y h) {a c n wh : Int} (a1 : -2147483648 ≤ a) (a2 : a ≤ 2147483647) (c1 : -2147483648 ≤ c) (c2 : c ≤ 2147483647) (n1 : -2147483648 ≤ n) (n2 : n ≤ 2147483647) (w1 : -2147483648 ≤ wh) (w2 : wh ≤ 2147483647) : GJ 123 m_M_chance [.ref 88, .int (kI a), .int (kI c), .int (kI n), .int (kI wh)] h (kJ (chaA s y a c n wh)) (Fr IM JM h) := by
  have F := C0.fix
  have C : MC s y (stI h 88 0 (kI 0)) := C0.fr (f88 h)
  have n4 := C.wf.2.2.2.2.2.1
  have N2 := C.wf.n12
  refine GJo (s_M_chance_0 ⟨by rw [kd_88 F]; rfl, by rw [kd_stI, kd_88 F]; rfl, ?_⟩)
  unfold chaA
  rw [kI_long (by omega) (by omega), M_isHand_c C (by omega) (by omega) (by omega)]
  by_cases q1 : 0 ≤ a ∧ a < sH s
  · obtain ⟨A, rfl⟩ : ∃ A : Nat, a = A := ⟨a.toNat, by omega⟩
    rw [if_neg (by rw [dec_b0]; exact fun z => z q1)]
    refine ⟨by rw [kd_88 C.fix]; rfl, ?_⟩
    rw [kI_long (by omega) (by omega), M_isCell_c C (by omega) (by omega) (by omega)]
    by_cases q2 : 0 ≤ c ∧ c < sN s
    · obtain ⟨c', rfl⟩ : ∃ c' : Nat, c = c' := ⟨c.toNat, by omega⟩
      rw [if_neg (by rw [dec_b0]; exact fun z => z q2), kI_long (by omega) (by omega), M_within_c (by omega) (by omega) (by omega) (by omega) (by omega) (by omega) (by omega)]
      by_cases q3 : 0 ≤ wh ∧ wh ≤ 1
      · rw [if_pos (by rw [Bool.not_eq_true', decide_eq_false_iff_not, bI_0]; exact fun z => z q3), if_pos ⟨q1, q2, q3⟩, kI_long (by omega) (by omega), M_within_c (by omega) (by omega) (by omega) (by omega) (by omega) (by omega) (by omega)]
        by_cases q4 : 0 ≤ n ∧ n ≤ 4
        · obtain ⟨N, rfl⟩ : ∃ N : Nat, n = N := ⟨n.toNat, by omega⟩
          rw [if_pos (by rw [Bool.not_eq_true', decide_eq_false_iff_not, bI_0]; exact fun z => z q4), if_pos q4, kd_88 C.fix, rv_88_1 C.fix, kd_89 C.fix, ln_89 C.fix, show ix (kI 22) = 22 from rfl, show ix (kI 23) = 23 from rfl, C.i22, C.i23]
          refine ⟨rfl, rfl, by decide, rfl, rfl, by decide, rfl, ?_⟩
          refine GJ.use (M_chanceOf_g (show A < 4 by omega) (show c' < sN s by omega) N (by omega) C C.wy.1 C.wy.2.1) (by omega) (fun h3 e3 => ?_)
          have f3 : Fr IM JM h h3 := (f88 h).trans e3
          have le := cnF_le (mvF s A (yB y A)) N c' (yD y) (yL y)
          have pw := p27 (show N ≤ 4 by omega)
          rw [Int.toNat_natCast, Int.toNat_natCast, Int.toNat_natCast]
          generalize cnF (mvF s A (yB y A)) N c' (yD y) (yL y) = X at le ⊢
          have fin : ∀ z : Nat, z ≤ 27720 ^ N → Safe 122 m_M_chance (91, [unV, unV, unV, .int (kI (N : Int)), unV, .long (kJ (X : Int)), unV], [.long (kJ (z : Int))], h3) (fun v h' => Eqv v (some (.long (kJ ((z / Nat.gcd X (27720 ^ N) : Nat) : Int)))) ∧ Fr IM JM h h') := by
            intro z hz
            refine s_M_chance_91 ?_
            have gp : 0 < Nat.gcd X (27720 ^ N) := Nat.gcd_pos_of_pos_right _ (by omega)
            have gl : Nat.gcd X (27720 ^ N) ≤ 27720 ^ N := Nat.gcd_le_right _ (by omega)
            have t60 : (2 : Nat) ^ 60 = 1152921504606846976 := by decide
            rw [M_wholeOf_c (by omega) (by omega), M_commonOf_c 120 (by omega) (Eu_of 60 _ _ (by omega)) (by omega) (by omega)]
            refine ⟨by rw [Bool.not_eq_true', decide_eq_false_iff_not, zJ0, kJ_inj (by omega) (by omega) (by omega) (by omega)]; omega, ?_⟩
            rw [kJ_ndiv (by omega) gp (by omega)]
            exact ⟨rfl, f3⟩
          by_cases qw : wh = 0
          · rw [if_neg (by rw [qw]; decide), if_pos qw]
            exact fin X le
          · rw [if_pos (by rw [Bool.not_eq_true', decide_eq_false_iff_not, z0, kI_inj (by omega) (by omega) (by omega) (by omega)]; exact qw), if_neg qw, M_wholeOf_c (by omega) (by omega)]
            exact fin _ (Nat.le_refl _)
        · rw [if_neg (by rw [Bool.not_eq_true', decide_eq_false_iff_not, bI_0]; exact fun z => z q4), if_neg q4]
          exact ⟨rfl, f88 h⟩
      · rw [if_neg (by rw [Bool.not_eq_true', decide_eq_false_iff_not, bI_0]; exact fun z => z q3), if_neg (fun z => q3 z.2.2)]
        exact ⟨rfl, f88 h⟩
    · rw [if_pos (by rw [dec_b0]; exact q2), if_neg (fun z => q2 z.2.1)]
      exact ⟨rfl, f88 h⟩
  · rw [if_pos (by rw [dec_b0]; exact q1), if_neg (fun z => q1 z.1)]
    exact ⟨rfl, f88 h⟩
def latF (f : Nat → Nat) (D : Nat) : Nat → Int × Nat
  | 0 => (-1, 0)
  | k + 1 => if D.testBit k = true then latF f D k else if (latF f D k).1 = -1 ∨ f k < (latF f D k).2 then ((k : Int), f k) else latF f D k
theorem latF_s (f : Nat → Nat) (D k : Nat) : latF f D (k + 1) = if D.testBit k = true then latF f D k else if (latF f D k).1 = -1 ∨ f k < (latF f D k).2 then ((k : Int), f k) else latF f D k := rfl
theorem latF_b (f : Nat → Nat) (D : Nat) : ∀ k, (latF f D k).1 = -1 ∧ (latF f D k).2 = 0 ∨ ∃ c : Nat, c < k ∧ (latF f D k).1 = c ∧ (latF f D k).2 = f c
  | 0 => Or.inl ⟨rfl, rfl⟩
  | k + 1 => by
    rw [latF_s]
    have ih := latF_b f D k
    by_cases q : D.testBit k = true
    · rw [if_pos q]
      rcases ih with h | ⟨c, h1, h2⟩
      · exact Or.inl h
      · exact Or.inr ⟨c, by omega, h2⟩
    · rw [if_neg q]
      split
      · exact Or.inr ⟨k, by omega, rfl, rfl⟩
      · rcases ih with h | ⟨c, h1, h2⟩
        · exact Or.inl h
        · exact Or.inr ⟨c, by omega, h2⟩
def latA (s : ST) (y : DY) (a n : Int) : Int := if 0 ≤ a ∧ a < sH s then (if 0 ≤ n ∧ n ≤ 4 then (latF (fun c => cnF (mvF s a.toNat (yB y a.toNat)) n.toNat c (yD y) (yL y)) (yD y) (sN s)).1 else -3) else -2
theorem M_latest_g {s : ST} {y : DY} {h : AH} (C0 : MC s y h) {a n : Int} (a1 : -2147483648 ≤ a) (a2 : a ≤ 2147483647) (n1 : -2147483648 ≤ n) (n2 : n ≤ 2147483647) : GI 11 m_M_latest [.ref 88, .int (kI a), .int (kI n)] h (kI (latA s y a n)) (Fr IM JM h) := by
  have F := C0.fix
  have C : MC s y (stI h 88 0 (kI 0)) := C0.fr (f88 h)
  have n4 := C.wf.2.2.2.2.2.1
  have N2 := C.wf.n12
  have hD := C.wy.m12 C.wf
  refine GIo (s_M_latest_0 ⟨by rw [kd_88 F]; rfl, by rw [kd_stI, kd_88 F]; rfl, ?_⟩)
  unfold latA
  rw [kI_long (by omega) (by omega), M_isHand_c C (by omega) (by omega) (by omega)]
  by_cases q1 : 0 ≤ a ∧ a < sH s
  · obtain ⟨A, rfl⟩ : ∃ A : Nat, a = A := ⟨a.toNat, by omega⟩
    rw [if_pos (by rw [Bool.not_eq_true', decide_eq_false_iff_not, bI_0]; exact fun z => z q1), if_pos q1, kI_long (by omega) (by omega), M_within_c (by omega) (by omega) (by omega) (by omega) (by omega) (by omega) (by omega)]
    by_cases q4 : 0 ≤ n ∧ n ≤ 4
    · obtain ⟨N, rfl⟩ : ∃ N : Nat, n = N := ⟨n.toNat, by omega⟩
      rw [if_pos (by rw [Bool.not_eq_true', decide_eq_false_iff_not, bI_0]; exact fun z => z q4), if_pos q4, Int.toNat_natCast, Int.toNat_natCast]
      have le : ∀ c, cnF (mvF s A (yB y A)) N c (yD y) (yL y) ≤ 590436101122560000 := fun c => Nat.le_trans (cnF_le _ _ _ _ _) (p27 (by omega)).1
      obtain ⟨f, hf⟩ : ∃ f : Nat → Nat, f = fun c => cnF (mvF s A (yB y A)) N c (yD y) (yL y) := ⟨_, rfl⟩
      have lf : ∀ c, f c ≤ 590436101122560000 := fun c => by rw [hf]; exact le c
      rw [← hf]
      suffices H : ∀ k, k ≤ sN s → ∀ h2, Fr IM JM h h2 → Safe 10 m_M_latest (40, [.ref 88, .int (kI (A : Int)), .int (kI (N : Int)), .int (kI (latF f (yD y) k).1), .long (kJ ((latF f (yD y) k).2 : Nat)), unV, .int (kI k), unV, unV], [], h2) (fun v h' => Eqv v (some (.int (kI (latF f (yD y) (sN s)).1))) ∧ Fr IM JM h h') by
        exact H 0 (by omega) _ (f88 h)
      refine down_ind (sN s) ?_ ?_
      · intro h2 e2
        have C2 := C0.fr e2
        refine s_M_latest_40 ?_
        refine ⟨by rw [kd_88 C2.fix]; rfl, ?_⟩
        rw [M_cells_c C2 (by omega), if_pos (by rw [decide_eq_true_eq, kI_le (by omega) (by omega) (by omega) (by omega)]; omega)]
        exact ⟨rfl, e2⟩
      · intro k hk ih h2 e2
        have C2 := C0.fr e2
        have F2 := C2.fix
        refine s_M_latest_40 ?_
        refine ⟨by rw [kd_88 F2]; rfl, ?_⟩
        rw [M_cells_c C2 (by omega), if_neg (by rw [decide_eq_true_eq, kI_le (by omega) (by omega) (by omega) (by omega)]; omega), kd_88 F2, rv_88_1 F2, kd_89 F2, ln_89 F2, show ix (kI 22) = 22 from rfl, C2.i22, kI_long (by omega) (by omega)]
        refine ⟨rfl, rfl, by decide, ?_⟩
        rw [M_isIn_c (by omega) (by omega) (by omega)]
        rw [latF_s] at ih
        by_cases qd : (yD y).testBit k = true
        · rw [if_neg (by rw [dec_b0]; exact fun z => z qd), kI_add]
          rw [if_pos qd] at ih
          exact ih h2 e2
        · rw [if_pos (by rw [dec_b0]; exact qd), show ix (kI 23) = 23 from rfl, kd_88 F2, rv_88_1 F2, kd_89 F2, ln_89 F2, C2.i22, C2.i23]
          rw [if_neg qd] at ih
          refine ⟨rfl, rfl, by decide, rfl, rfl, by decide, rfl, ?_⟩
          refine GJ.use (M_chanceOf_g (show A < 4 by omega) hk N (by omega) C2 C.wy.1 C.wy.2.1) (by omega) (fun h3 e3 => ?_)
          have ef : cnF (mvF s A (yB y A)) N k (yD y) (yL y) = f k := by rw [hf]
          rw [ef]
          have := ih h3 (e2.trans e3)
          have l1 := lf k
          rcases latF_b f (yD y) k with ⟨b1, b2⟩ | ⟨c, b0, b1, b2⟩
          · rw [if_pos (Or.inl b1)] at this
            rw [b1, if_pos (by decide)]
            refine s_M_latest_108 ?_
            rw [kI_add]
            exact this
          · have l2 := lf c
            rw [b1, b2] at this ⊢
            rw [if_neg (by rw [decide_eq_true_eq, kI_inj (by omega) (by omega) (by omega) (by omega)]; omega)]
            by_cases q : f k < f c
            · rw [if_pos (Or.inr q)] at this
              rw [if_pos (by rw [decide_eq_true_eq, cmp_lt, kJ_lt (by omega) (by omega) (by omega) (by omega)]; omega)]
              refine s_M_latest_108 ?_
              rw [kI_add]
              exact this
            · rw [if_neg (by omega), b1, b2] at this
              rw [if_neg (by rw [decide_eq_true_eq, cmp_lt, kJ_lt (by omega) (by omega) (by omega) (by omega)]; omega), kI_add]
              exact this
    · rw [if_neg (by rw [Bool.not_eq_true', decide_eq_false_iff_not, bI_0]; exact fun z => z q4), if_neg q4]
      exact ⟨rfl, f88 h⟩
  · rw [if_neg (by rw [Bool.not_eq_true', decide_eq_false_iff_not, bI_0]; exact fun z => z q1), if_neg q1]
    exact ⟨rfl, f88 h⟩
