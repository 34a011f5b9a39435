/-! what a stand is worth, worked out by the paths -/
theorem or_add : ∀ c m, m.testBit c = false → m ||| 2 ^ c = m + 2 ^ c := by
  intro c
  induction c with
  | zero =>
    intro m h
    rw [bit0] at h
    have h2 : ¬ m % 2 = 1 := by simpa using h
    have e := Nat.div_add_mod (m ||| 2 ^ 0) 2
    rw [or_half] at e
    have b : ((m ||| 2 ^ 0) % 2 = 1) := by
      have := or_self_bit m 0
      rw [bit0] at this
      simpa using this
    have z : (2 ^ 0) / 2 = 0 := rfl
    rw [z, Nat.or_zero] at e
    have p0 : 2 ^ 0 = 1 := rfl
    omega
  | succ c ih =>
    intro m h
    have h2 : (m / 2).testBit c = false := by rw [bit_half]; exact h
    have ih2 := ih (m / 2) h2
    have e := Nat.div_add_mod (m ||| 2 ^ (c + 1)) 2
    have p : 2 ^ (c + 1) / 2 = 2 ^ c := by rw [Nat.pow_succ]; omega
    have p2 : 2 ^ (c + 1) = 2 ^ c * 2 := Nat.pow_succ 2 c
    rw [or_half, p, ih2] at e
    have b : (m ||| 2 ^ (c + 1)) % 2 = m % 2 := by
      have q : (m ||| 2 ^ (c + 1)).testBit 0 = m.testBit 0 := by
        rw [Nat.testBit_or, two_bit]
        simp
      rw [bit0, bit0] at q
      have q2 := decide_eq_decide.mp q
      omega
    omega
theorem leap_idx {m c w r : Nat} (h : m.testBit c = false) : m * w + (w * 2 ^ c + r) = (m ||| 2 ^ c) * w + r := by
  rw [or_add c m h, Nat.add_mul, Nat.mul_comm w]
  omega
def VO (D : Nat) (od : Nat → Int) (aim tg m op : Nat) (f : Nat → Int) : Int :=
  if aim = 0 then mxF (fun c => op.testBit c && c != tg) f 12
  else if aim = 1 then (if op = 0 then 0 else mnF op.testBit (fun _ => 1) f 12)
  else if aim = 2 then (if op.testBit tg = true then 1 else mnF op.testBit (fun _ => 1) f 12)
  else if aim = 3 then (if pop m - pop D = tg then 0 else mnF op.testBit od f 12)
  else (if op = 0 then 2 * (tg : Int) - 1 else plF op.testBit f)
def byd (y : DY) (aim tg m : Nat) : Prop := ((aim = 0 ∨ aim = 2) ∧ m.testBit tg = true) ∨ (aim = 3 ∧ tg < pop m - pop (yD y))
/-- values that may be read -/
def VRd (s : ST) (ok : Nat → Bool) (base va : Nat) (f : Nat → Int) (h : AH) : Prop := ∀ c, ok c = true → c < 12 ∧ base + (wdt s * 2 ^ c + rnk s c) < lnA h va ∧ ivA h va (base + (wdt s * 2 ^ c + rnk s c)) = kI (f c) ∧ -1048576 ≤ f c ∧ f c ≤ 1048576
theorem shr0 {op c : Nat} (h : op / 2 ^ c = 0) : ∀ k, c ≤ k → op.testBit k = false := fun k hk => by
  have : op < 2 ^ c := by
    have p := Nat.two_pow_pos c
    exact (Nat.div_eq_zero_iff_lt p).mp h
  exact bit_hi this hk
theorem Pa_rd {T : Nat → Nat} {s : ST} {p : Nat} {y : DY} {a b ar mo va : Nat} {h : AH} (P : PHd T s p y a b ar mo va h) {ok : Nat → Bool} {base c : Nat} {f : Nat → Int} (V : VRd s ok base va f h) (hb : base ≤ 60000) (hc : ok c = true) : (decide (kdA h 57 = 4)) = true ∧ (decide (kdA h (rvA h 57 8) = 20) || decide (kdA h (rvA h 57 8) = 40)) = true ∧ (inB (kI c) (lnA h (rvA h 57 8))) = true ∧ (decide (kdA h (rvA h 57 11) = 20) || decide (kdA h (rvA h 57 11) = 40)) = true ∧ (inB (kI base + ivA h (rvA h 57 8) (ix (kI c))) (lnA h (rvA h 57 11))) = true ∧ ivA h (rvA h 57 11) (ix (kI base + ivA h (rvA h 57 8) (ix (kI c)))) = kI (f c) := by
  have v := V c hc
  have w := wdt_b P.S.wf
  have lv := P.xv.2.2.2.2.2
  have e : kI (base : Int) + kI ((wdt s * 2 ^ c + rnk s c : Nat) : Int) = kI ((base + (wdt s * 2 ^ c + rnk s c) : Nat) : Int) := by rw [kI_add]; rfl
  rw [kd_57 P.F, rv_57_8 P.F, kd_58 P.F, ln_58 P.F, ix_kI (by omega), P.lp c v.1, e, P.r11, P.xv.2.2.2.1, ix_kI (by omega), v.2.2.1]
  exact ⟨rfl, rfl, inB_kI (by omega) v.1, rfl, inB_kI (by omega) v.2.1, rfl⟩
theorem Pa_most_c {T : Nat → Nat} {s : ST} {p : Nat} {y : DY} {a b ar mo va d : Nat} {h : AH} (P : PHd T s p y a b ar mo va h) (hd : 1 ≤ d) {op base : Nat} {f : Nat → Int} (ho : op < 4096) (hb : base ≤ 60000) (V : VRd s op.testBit base va f h) {K : Int32 → AH → Prop} : CallI d m_Pa_most [.ref 57, .int (kI base), .int (kI op)] h K ↔ K (kI (mxF op.testBit f 12)) h := by
  refine Ret.I (d := 1) (ret_of (s_Pa_most_0 ?_)) hd
  have mb : ∀ k, 0 ≤ mxF op.testBit f k ∧ mxF op.testBit f k ≤ 1048577 := by
    intro k
    induction k with
    | zero => exact ⟨Int.le_refl _, by show (0 : Int) ≤ 1048577; omega⟩
    | succ k ih =>
      rw [mxF_s]
      by_cases q : op.testBit k = true
      · have := V k q
        rw [if_pos q]; split <;> omega
      · rw [if_neg q]; exact ih
  suffices H : ∀ k, k ≤ 12 → Safe 0 m_Pa_most (5, [.ref 57, .int (kI base), .int (kI op), .int (kI (mxF op.testBit f k)), .int (kI k)], [], h) (fun v k => v = some (.int (kI (mxF op.testBit f 12))) ∧ k = h) by
    exact H 0 (by omega)
  refine down_ind 12 ?_ ?_
  · refine s_Pa_most_5 ?_
    rw [kd_57 P.F, rv_57_8 P.F, kd_58 P.F, ln_58 P.F, if_pos (by decide)]
    exact ⟨rfl, rfl, rfl, rfl⟩
  · intro k hk ih
    have mk := mb k
    refine s_Pa_most_5 ?_
    rw [kI_bit (by omega) (by omega), kI_shr (by omega) (by omega)]
    refine ⟨by rw [kd_57 P.F]; rfl, by rw [rv_57_8 P.F, kd_58 P.F]; rfl, ?_⟩
    rw [if_neg (by rw [rv_57_8 P.F, ln_58 P.F, decide_eq_true_eq, kI_le (by omega) (by omega) (by omega) (by omega)]; omega)]
    have dl : op / 2 ^ k ≤ op := Nat.div_le_self _ _
    have dz : 0 ≤ ((op / 2 ^ k : Nat) : Int) := Int.natCast_nonneg _
    by_cases q0 : op / 2 ^ k = 0
    · rw [if_pos (by rw [q0]; decide), mxF_n (n := k) (by omega) (shr0 q0)]
      exact ⟨rfl, rfl⟩
    · rw [if_neg (by rw [decide_eq_true_eq, z0, kI_inj (by omega) (by omega) (by omega) (by omega)]; omega)]
      rw [mxF_s] at ih
      by_cases qb : op.testBit k = true
      · have rd := Pa_rd P V hb qb
        have v := V k qb
        rw [if_neg (by rw [dec_b0]; exact fun z => z qb), rd.2.2.2.2.2, kI_add, kI_add]
        refine ⟨rd.1, rd.1, rd.2.1, rd.2.2.1, rd.2.2.2.1, rd.2.2.2.2.1, ?_⟩
        rw [if_pos qb] at ih
        by_cases q4 : mxF op.testBit f k < 1 + f k
        · rw [if_pos (by rw [kI_lt (by omega) (by omega) (by omega) (by omega)]; exact q4)]
          rw [if_pos q4] at ih
          exact ih
        · rw [if_neg (by rw [kI_lt (by omega) (by omega) (by omega) (by omega)]; exact q4)]
          rw [if_neg q4] at ih
          exact ih
      · rw [if_pos (by rw [dec_b0]; exact qb), kI_add]
        rw [if_neg qb] at ih
        exact ih
theorem Pa_least_c {T : Nat → Nat} {s : ST} {p : Nat} {y : DY} {a b ar mo va d aim : Nat} {h : AH} (P : PHd T s p y a b ar mo va h) (O : ∀ c, c < sN s → ivA h 62 c = kI (odF s y c)) (i12 : ivA h 57 12 = kI aim) (ha : aim ≤ 4) (hd : 1 ≤ d) {op base : Nat} {f : Nat → Int} (ho : op < 2 ^ sN s) (hb : base ≤ 60000) (V : VRd s op.testBit base va f h) {K : Int32 → AH → Prop} : CallI d m_Pa_least [.ref 57, .int (kI base), .int (kI op)] h K ↔ K (kI (mnF op.testBit (wcF s y aim) f 12)) h := by
  have pn := P.n
  have n2 := P.S.wf.n12
  have wcb : ∀ c, 0 ≤ wcF s y aim c ∧ wcF s y aim c ≤ 999 := fun c => by
    unfold wcF
    split
    · exact odF_b s y c
    · omega
  refine Ret.I (d := 1) (ret_of (s_Pa_least_0 ?_)) hd
  have mb : ∀ k, -1048576 ≤ mnF op.testBit (wcF s y aim) f k ∧ mnF op.testBit (wcF s y aim) f k ≤ 1048576 := by
    intro k
    induction k with
    | zero => exact ⟨by show (-1048576 : Int) ≤ 1048576; omega, Int.le_refl _⟩
    | succ k ih =>
      rw [mnF_s]
      by_cases q : op.testBit k = true
      · have := V k q
        have := wcb k
        rw [if_pos q]; split <;> omega
      · rw [if_neg q]; exact ih
  suffices H : ∀ k, k ≤ 12 → Safe 0 m_Pa_least (6, [.ref 57, .int (kI base), .int (kI op), .int (kI (mnF op.testBit (wcF s y aim) f k)), .int (kI k)], [], h) (fun v k => v = some (.int (kI (mnF op.testBit (wcF s y aim) f 12))) ∧ k = h) by
    exact H 0 (by omega)
  refine down_ind 12 ?_ ?_
  · refine s_Pa_least_6 ?_
    rw [kd_57 P.F, rv_57_8 P.F, kd_58 P.F, ln_58 P.F, if_pos (by decide)]
    exact ⟨rfl, rfl, rfl, rfl⟩
  · intro k hk ih
    have mk := mb k
    refine s_Pa_least_6 ?_
    rw [kI_bit (by omega) (by omega), kI_shr (by omega) (by omega)]
    refine ⟨by rw [kd_57 P.F]; rfl, by rw [rv_57_8 P.F, kd_58 P.F]; rfl, ?_⟩
    rw [if_neg (by rw [rv_57_8 P.F, ln_58 P.F, decide_eq_true_eq, kI_le (by omega) (by omega) (by omega) (by omega)]; omega)]
    have dl : op / 2 ^ k ≤ op := Nat.div_le_self _ _
    have dz : 0 ≤ ((op / 2 ^ k : Nat) : Int) := Int.natCast_nonneg _
    by_cases q0 : op / 2 ^ k = 0
    · rw [if_pos (by rw [q0]; decide), mnF_n (n := k) (by omega) (shr0 q0)]
      exact ⟨rfl, rfl⟩
    · rw [if_neg (by rw [decide_eq_true_eq, z0, kI_inj (by omega) (by omega) (by omega) (by omega)]; omega)]
      rw [mnF_s] at ih
      by_cases qb : op.testBit k = true
      · have rd := Pa_rd P V hb qb
        have v := V k qb
        have wk := wcb k
        have kN : k < sN s := by
          by_cases z : k < sN s
          · exact z
          · rw [bit_hi ho (by omega)] at qb; cases qb
        have s52 : Safe 0 m_Pa_least (52, [.ref 57, .int (kI base), .int (kI op), unV, .int (kI k)], [.int (kI (wcF s y aim k)), .int (kI (mnF op.testBit (wcF s y aim) f k))], h) (fun v k => v = some (.int (kI (mnF op.testBit (wcF s y aim) f 12))) ∧ k = h) := by
          refine s_Pa_least_52 ?_
          rw [rd.2.2.2.2.2, kI_add, kI_add]
          refine ⟨rd.1, rd.1, rd.2.1, rd.2.2.1, rd.2.2.2.1, rd.2.2.2.2.1, ?_⟩
          rw [if_pos qb] at ih
          by_cases q4 : wcF s y aim k + f k < mnF op.testBit (wcF s y aim) f k
          · rw [if_pos (by rw [kI_lt (by omega) (by omega) (by omega) (by omega)]; exact q4)]
            rw [if_pos q4] at ih
            exact ih
          · rw [if_neg (by rw [kI_lt (by omega) (by omega) (by omega) (by omega)]; exact q4)]
            rw [if_neg q4] at ih
            exact ih
        rw [if_neg (by rw [dec_b0]; exact fun z => z qb), i12]
        refine ⟨rd.1, ?_⟩
        by_cases q3 : aim = 3
        · have ew : wcF s y aim k = odF s y k := by unfold wcF; rw [if_pos q3]
          rw [ew] at s52
          rw [if_neg (by rw [q3]; decide), rv_57_15 P.F, kd_62 P.F, ln_62 P.F, ix_kI (by omega), O k kN]
          exact ⟨rd.1, rfl, inB_kI (by omega) hk, s52⟩
        · have ew : wcF s y aim k = 1 := by unfold wcF; rw [if_neg q3]
          rw [ew] at s52
          rw [if_pos (by rw [Bool.not_eq_true', decide_eq_false_iff_not, kI_inj (by omega) (by omega) (by omega) (by omega)]; omega)]
          exact s52
      · rw [if_pos (by rw [dec_b0]; exact qb), kI_add]
        rw [if_neg qb] at ih
        exact ih
theorem Pa_played_c {T : Nat → Nat} {s : ST} {p : Nat} {y : DY} {a b ar mo va d : Nat} {h : AH} (P : PHd T s p y a b ar mo va h) (hd : 1 ≤ d) {op base : Nat} {f : Nat → Int} (ho : op < 4096) (hb : base ≤ 60000) (V : VRd s op.testBit base va f h) (fb : ∀ c, op.testBit c = true → -1000 ≤ f c ∧ f c ≤ 1000) {K : Int32 → AH → Prop} : CallI d m_Pa_played [.ref 57, .int (kI base), .int (kI op)] h K ↔ K (kI (plF op.testBit f)) h := by
  refine Ret.I (d := 1) (ret_of (s_Pa_played_0 ?_)) hd
  have lb : ∀ k, lsF op.testBit f k = -1048576 ∨ (-1000 ≤ lsF op.testBit f k ∧ lsF op.testBit f k < 0) := by
    intro k
    rcases lsF_at (ok := op.testBit) (f := f) k with q | ⟨c, q1, q2, q3, q4, q5⟩
    · exact Or.inl q
    · have := fb c q2
      right; omega
  have wb : ∀ k, 0 ≤ wnF op.testBit f k ∧ wnF op.testBit f k ≤ 1000 := wnF_b (by omega) (fun c hc _ => (fb c hc).2)
  have fin : Safe 0 m_Pa_played (81, [unV, unV, unV, .int (kI (lsF op.testBit f 12)), .int (kI (wnF op.testBit f 12)), unV, unV], [], h) (fun v k => v = some (.int (kI (plF op.testBit f))) ∧ k = h) := by
    have l := lb 12
    have ww := wb 12
    refine s_Pa_played_81 ?_
    unfold plF
    by_cases q : lsF op.testBit f 12 ≤ -1048576
    · rw [if_pos (by rw [decide_eq_true_eq, kI_le (by omega) (by omega) (by omega) (by omega)]; exact q), if_pos q, kI_neg, kI_sub]
      exact ⟨rfl, rfl⟩
    · rw [if_neg (by rw [decide_eq_true_eq, kI_le (by omega) (by omega) (by omega) (by omega)]; exact q), if_neg q, kI_sub]
      exact ⟨rfl, rfl⟩
  suffices H : ∀ k, k ≤ 12 → Safe 0 m_Pa_played (9, [.ref 57, .int (kI base), .int (kI op), .int (kI (lsF op.testBit f k)), .int (kI (wnF op.testBit f k)), .int (kI k), unV], [], h) (fun v k => v = some (.int (kI (plF op.testBit f))) ∧ k = h) by
    exact H 0 (by omega)
  refine down_ind 12 ?_ ?_
  · refine s_Pa_played_9 ?_
    rw [kd_57 P.F, rv_57_8 P.F, kd_58 P.F, ln_58 P.F, if_pos (by decide)]
    exact ⟨rfl, rfl, fin⟩
  · intro k hk ih
    have lk := lb k
    have wk := wb k
    refine s_Pa_played_9 ?_
    rw [kI_bit (by omega) (by omega), kI_shr (by omega) (by omega)]
    refine ⟨by rw [kd_57 P.F]; rfl, by rw [rv_57_8 P.F, kd_58 P.F]; rfl, ?_⟩
    rw [if_neg (by rw [rv_57_8 P.F, ln_58 P.F, decide_eq_true_eq, kI_le (by omega) (by omega) (by omega) (by omega)]; omega)]
    have dl : op / 2 ^ k ≤ op := Nat.div_le_self _ _
    have dz : 0 ≤ ((op / 2 ^ k : Nat) : Int) := Int.natCast_nonneg _
    by_cases q0 : op / 2 ^ k = 0
    · rw [if_pos (by rw [q0]; decide), lsF_n (n := k) (by omega) (shr0 q0), wnF_n (n := k) (by omega) (shr0 q0)]
      exact fin
    · rw [if_neg (by rw [decide_eq_true_eq, z0, kI_inj (by omega) (by omega) (by omega) (by omega)]; omega)]
      rw [lsF_s, wnF_s] at ih
      by_cases qb : op.testBit k = true
      · have rd := Pa_rd P V hb qb
        have v := V k qb
        have fk := fb k qb
        rw [if_neg (by rw [dec_b0]; exact fun z => z qb), rd.2.2.2.2.2, kI_add]
        refine ⟨rd.1, rd.1, rd.2.1, rd.2.2.1, rd.2.2.2.1, rd.2.2.2.2.1, ?_⟩
        by_cases qs : f k < 0
        · rw [if_neg (by rw [decide_eq_true_eq, z0, kI_le (by omega) (by omega) (by omega) (by omega)]; omega)]
          rw [if_pos (show op.testBit k = true ∧ f k < 0 from ⟨qb, qs⟩), if_neg (show ¬ (op.testBit k = true ∧ 0 ≤ f k) by omega)] at ih
          by_cases q4 : lsF op.testBit f k < f k
          · rw [if_pos (by rw [kI_lt (by omega) (by omega) (by omega) (by omega)]; exact q4)]
            rw [if_pos q4] at ih
            exact ih
          · rw [if_neg (by rw [kI_lt (by omega) (by omega) (by omega) (by omega)]; exact q4)]
            rw [if_neg q4] at ih
            exact ih
        · rw [if_pos (by rw [decide_eq_true_eq, z0, kI_le (by omega) (by omega) (by omega) (by omega)]; omega)]
          rw [if_neg (show ¬ (op.testBit k = true ∧ f k < 0) by omega), if_pos (show op.testBit k = true ∧ 0 ≤ f k from ⟨qb, by omega⟩)] at ih
          by_cases q4 : wnF op.testBit f k < f k
          · rw [if_pos (by rw [kI_lt (by omega) (by omega) (by omega) (by omega)]; exact q4)]
            rw [if_pos q4] at ih
            exact ih
          · rw [if_neg (by rw [kI_lt (by omega) (by omega) (by omega) (by omega)]; exact q4)]
            rw [if_neg q4] at ih
            exact ih
      · rw [if_pos (by rw [dec_b0]; exact qb), kI_add]
        rw [if_neg (show ¬ (op.testBit k = true ∧ f k < 0) from fun z => qb z.1), if_neg (show ¬ (op.testBit k = true ∧ 0 ≤ f k) from fun z => qb z.1)] at ih
        exact ih
theorem mxF_dif {op tg : Nat} {f : Nat → Int} : mxF (dif op (2 ^ tg)).testBit f 12 = mxF (fun c => op.testBit c && c != tg) f 12 := mxF_congr (fun k => by
  rw [dif_bit, two_bit]
  by_cases e : tg = k
  · subst e; simp
  · have : ¬ k = tg := fun z => e z.symm
    simp [e, this]) (fun _ _ => rfl) 12
/-- bounds that every worth keeps -/
theorem WT_rng {s : ST} (w : WFS s) {y : DY} {a b aim tg m l : Nat} (ha : aim ≤ 4) (ht : aim = 4 → tg ≤ 1) (hm : m < 4096) : -1048576 ≤ WT s y a b aim tg m l ∧ WT s y a b aim tg m l ≤ 1048576 := by
  by_cases e : aim = 4
  · subst e
    have := WT_4 w (y := y) (a := a) (b := b) (l := l) (ht rfl) hm
    omega
  · have := (WT_gd w (y := y) (a := a) (b := b) (aim := aim) (tg := tg) (l := l) (by omega) hm).b
    omega
theorem Pa_worth_c {T : Nat → Nat} {s : ST} {p : Nat} {y : DY} {a b ar mo va d aim tg : Nat} {h : AH} (P : PHd T s p y a b ar mo va h) (O : ∀ c, c < sN s → ivA h 62 c = kI (odF s y c)) (i12 : ivA h 57 12 = kI aim) (i13 : ivA h 57 13 = kI tg) (ha : aim ≤ 4) (ht : tg ≤ 12) (h01 : aim = 4 → tg ≤ 1) (h02 : aim = 0 ∨ aim = 2 → tg < 12) (hd : 3 ≤ d) {k op : Nat} (hk : k < 2 ^ sN s) (sb : subB (yD y) k) (nb : ¬ byd y aim tg k) (ho : ∀ c, op.testBit c = true → c < sN s ∧ k.testBit c = false) (hop : op < 2 ^ sN s) (V : ∀ c, op.testBit c = true → ¬ byd y aim tg (k ||| 2 ^ c) → ivA h va ((k ||| 2 ^ c) * wdt s + rnk s c) = kI (WT s y a b aim tg (k ||| 2 ^ c) c)) {K : Int32 → AH → Prop} : CallI d m_Pa_worth [.ref 57, .int (kI k), .int (kI op)] h K ↔ K (kI (VO (yD y) (odF s y) aim tg k op (fun c => WT s y a b aim tg (k ||| 2 ^ c) c))) h := by
  have pn := P.n
  have n2 := P.S.wf.n12
  have w := P.S.wf
  have F := P.F
  have wd := wdt_b w
  have k12 : k < 4096 := by omega
  have pk := pop_le k
  have eb : kI (k : Int) * kI (wdt s : Int) = kI ((k * wdt s : Nat) : Int) := by rw [kI_mul]; rfl
  have bs : k * wdt s ≤ 60000 := by
    have := Nat.mul_le_mul (show k ≤ 4095 by omega) wd.2
    omega
  obtain ⟨f, hf⟩ : ∃ f : Nat → Int, f = fun c => WT s y a b aim tg (k ||| 2 ^ c) c := ⟨_, rfl⟩
  have fe : ∀ c, f c = WT s y a b aim tg (k ||| 2 ^ c) c := fun c => by rw [hf]
  have V2 : ∀ op2 : Nat, (∀ c, op2.testBit c = true → op.testBit c = true ∧ ¬ byd y aim tg (k ||| 2 ^ c)) → VRd s op2.testBit (k * wdt s) va f h := fun op2 H c hc => by
    have h1 := H c hc
    have o := ho c h1.1
    have rk := rnk_lt (s := s) (l := c) (Or.inr o.1)
    have lt := idx_lt (or_lt2 hk o.1) rk
    have lv := P.xv.2.2.2.2.1
    have rg := WT_rng w (y := y) (a := a) (b := b) (l := c) ha h01 (or_4096 k12 (show c < 12 by omega))
    rw [leap_idx o.2, V c h1.1 h1.2, fe c]
    exact ⟨by omega, by omega, rfl, rg.1, rg.2⟩
  refine Ret.I (d := 3) (ret_of (s_Pa_worth_0 ?_)) hd
  rw [← hf, kd_57 F, i12, i13, P.i6, eb]
  refine ⟨rfl, ?_⟩
  have e : aim = 0 ∨ aim = 1 ∨ aim = 2 ∨ aim = 3 ∨ aim = 4 := by omega
  rcases e with rfl | rfl | rfl | rfl | rfl
  · have t12 := h02 (Or.inl rfl)
    have nk : k.testBit tg = false := by
      cases z : k.testBit tg
      · rfl
      · exact absurd (Or.inl ⟨Or.inl rfl, z⟩) nb
    rw [show VO (yD y) (odF s y) 0 tg k op f = mxF (fun c => op.testBit c && c != tg) f 12 from rfl, if_pos (by decide), kI_shl1 (by omega), kI_dif]
    refine ⟨rfl, rfl, rfl, ?_⟩
    have dl : dif op (2 ^ tg) < 4096 := dif_lt (n := 12) (by omega)
    rw [Pa_most_c P (by omega) dl bs (V2 _ (fun c hc => ?_)), mxF_dif]
    · exact ⟨rfl, rfl⟩
    · rw [dif_bit, two_bit] at hc
      simp only [Bool.and_eq_true, Bool.not_eq_true', decide_eq_false_iff_not] at hc
      refine ⟨hc.1, fun z => ?_⟩
      rcases z with z | z
      · rw [Nat.testBit_or, nk, two_bit] at z
        have := z.2
        simp at this
        exact hc.2 this.symm
      · omega
  · rw [show VO (yD y) (odF s y) 1 tg k op f = (if op = 0 then 0 else mnF op.testBit (fun _ => 1) f 12) from rfl, if_neg (by decide), if_pos (by decide)]
    by_cases q : op = 0
    · rw [if_neg (by rw [q]; decide), if_pos q]
      exact ⟨rfl, rfl⟩
    · rw [if_pos (by rw [Bool.not_eq_true', decide_eq_false_iff_not, z0, kI_inj (by omega) (by omega) (by omega) (by omega)]; omega), if_neg q]
      refine ⟨rfl, rfl, ?_⟩
      rw [Pa_least_c P O i12 ha (by omega) hop bs (V2 op (fun c hc => ⟨hc, fun z => by unfold byd at z; omega⟩))]
      exact ⟨rfl, rfl⟩
  · have t12 := h02 (Or.inr rfl)
    have nk : k.testBit tg = false := by
      cases z : k.testBit tg
      · rfl
      · exact absurd (Or.inl ⟨Or.inr rfl, z⟩) nb
    rw [show VO (yD y) (odF s y) 2 tg k op f = (if op.testBit tg = true then 1 else mnF op.testBit (fun _ => 1) f 12) from rfl, if_neg (by decide), if_neg (by decide), if_pos (by decide), kI_bit (by omega) (by omega)]
    refine ⟨rfl, ?_⟩
    by_cases q : op.testBit tg = true
    · rw [if_neg (by rw [dec_b0]; exact fun z => z q), if_pos q]
      exact ⟨rfl, rfl⟩
    · rw [if_pos (by rw [dec_b0]; exact q), if_neg q]
      refine ⟨rfl, rfl, ?_⟩
      rw [Pa_least_c P O i12 ha (by omega) hop bs (V2 op (fun c hc => ⟨hc, fun z => ?_⟩))]
      · exact ⟨rfl, rfl⟩
      · rcases z with z | z
        · rw [Nat.testBit_or, nk, two_bit] at z
          have := z.2
          simp at this
          rw [this] at hc
          exact q hc
        · omega
  · rw [show VO (yD y) (odF s y) 3 tg k op f = (if pop k - pop (yD y) = tg then 0 else mnF op.testBit (odF s y) f 12) from rfl, if_neg (by decide), if_neg (by decide), if_neg (by decide), if_pos (by decide)]
    refine ⟨rfl, ?_⟩
    rw [Pa_strokesTo_c P (by omega) k12 sb, kd_57 F, i13, P.i6, eb]
    refine ⟨rfl, ?_⟩
    by_cases q : pop k - pop (yD y) = tg
    · rw [if_neg (by rw [q]; simp), if_pos q]
      exact ⟨rfl, rfl⟩
    · rw [if_pos (by rw [Bool.not_eq_true', decide_eq_false_iff_not, kI_inj (by omega) (by omega) (by omega) (by omega)]; omega), if_neg q]
      refine ⟨rfl, rfl, ?_⟩
      rw [Pa_least_c P O i12 ha (by omega) hop bs (V2 op (fun c hc => ⟨hc, fun z => ?_⟩))]
      · exact ⟨rfl, rfl⟩
      · have o := ho c hc
        have pc := pop_or (show c < 12 by omega) o.2
        have px := pop_xor sb
        unfold byd at nb z
        omega
  · rw [show VO (yD y) (odF s y) 4 tg k op f = (if op = 0 then 2 * (tg : Int) - 1 else plF op.testBit f) from rfl, if_neg (by decide), if_neg (by decide), if_neg (by decide), if_neg (by decide)]
    by_cases q : op = 0
    · rw [if_neg (by rw [q]; decide), if_pos q, kI_mul, kI_sub]
      exact ⟨rfl, rfl, rfl⟩
    · rw [if_pos (by rw [Bool.not_eq_true', decide_eq_false_iff_not, z0, kI_inj (by omega) (by omega) (by omega) (by omega)]; omega), if_neg q]
      refine ⟨rfl, rfl, ?_⟩
      rw [Pa_played_c P (by omega) (by omega) bs (V2 op (fun c hc => ⟨hc, fun z => by unfold byd at z; omega⟩)) (fun c hc => ?_)]
      · exact ⟨rfl, rfl⟩
      · have o := ho c hc
        have := WT_4 w (y := y) (a := a) (b := b) (l := c) (h01 rfl) (or_4096 k12 (show c < 12 by omega))
        rw [fe c]
        omega
