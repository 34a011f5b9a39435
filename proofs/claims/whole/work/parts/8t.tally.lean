/-! counting rows -/
def fct : Nat → Nat
  | 0 => 1
  | n + 1 => (n + 1) * fct n
theorem fct_s (n : Nat) : fct (n + 1) = (n + 1) * fct n := rfl
theorem fct_12 {n : Nat} (h : n ≤ 12) : fct n ≤ 479001600 := by
  have : ∀ n, n < 13 → fct n ≤ 479001600 := by decide +kernel
  exact this n (by omega)
def TT (s : ST) (y : DY) (a b m : Nat) : Nat := sumF (Wy s y a b tt1 m) 13
theorem sumF_st (D L m : Nat) (hL : L ≤ 12) : sumF (stF D L m) 13 = if m = D then 1 else 0 := by
  by_cases e : m = D
  · rw [if_pos e]
    have key : ∀ n, sumF (stF D L m) n = if L < n then 1 else 0 := by
      intro n
      induction n with
      | zero => rfl
      | succ n ih =>
        rw [sumF_s, ih]
        unfold stF
        by_cases q : n = L
        · rw [if_neg (by omega), if_pos ⟨e, q⟩, if_pos (by omega)]
        · rw [if_neg (show ¬ (m = D ∧ n = L) from fun z => q z.2)]
          by_cases q2 : L < n
          · rw [if_pos q2, if_pos (by omega)]
          · rw [if_neg q2, if_neg (by omega)]
    rw [key, if_pos (by omega)]
  · rw [if_neg e]
    refine sumF_0 (fun k _ => ?_)
    unfold stF
    rw [if_neg (fun z => e z.1)]
theorem sumF_le2 {f g : Nat → Nat} : ∀ {n : Nat}, (∀ k, k < n → f k ≤ g k) → sumF f n ≤ sumF g n
  | 0, _ => Nat.le_refl _
  | n + 1, h => by
    have := sumF_le2 (f := f) (g := g) (n := n) (fun k hk => h k (by omega))
    have := h n (by omega)
    rw [sumF_s, sumF_s]
    omega
theorem sumF_add (f g : Nat → Nat) : ∀ n, sumF (fun k => f k + g k) n = sumF f n + sumF g n
  | 0 => rfl
  | n + 1 => by
    rw [sumF_s, sumF_s, sumF_s, sumF_add f g n]
    omega
theorem TT_le {s : ST} (w : WFS s) {y : DY} (wy : WFY s y) {a b : Nat} : ∀ m, TT s y a b m ≤ fct (pop m - pop (yD y)) := by
  refine lt_ind (fun m ih => ?_)
  have hL := wy.l12 w
  by_cases ex : ∃ l, 0 < Wy s y a b tt1 m l
  · obtain ⟨l0, h0⟩ := ex
    have wl := Wy_l w wy h0
    have m12 : m < 4096 := Nat.lt_of_lt_of_le wl.2.1 (Nat.pow_le_pow_right (n := 2) (by omega) w.n12)
    have px := pop_xor wl.2.2
    by_cases e : m = yD y
    · have : TT s y a b m = 1 := by
        unfold TT
        have : sumF (Wy s y a b tt1 m) 13 = sumF (stF (yD y) (yL y) m) 13 := sumF_congr (fun l _ => by
          show CW (mvG s y a b) (yD y) (yL y) tt1 m l = _
          rw [CW_eq]
          by_cases q : m.testBit l = true ∧ tt1 l = true
          · have z : sumF (tmF (mvG s y a b) (yD y) (yL y) tt1 m l) 13 = 0 := sumF_0 (fun k _ => by
              unfold tmF
              rw [CW_lo (by have := xor_lt q.1; omega)]
              split <;> rfl)
            rw [if_pos q, z, Nat.add_zero]
          · rw [if_neg q, Nat.add_zero])
        rw [this, sumF_st _ _ _ hL, if_pos e]
      rw [this, e, Nat.sub_self]
      exact Nat.le_refl 1
    · obtain ⟨n, hn⟩ : ∃ n, pop m - pop (yD y) = n + 1 := by
        rcases CW_last h0 with q | ⟨_, q2, q3⟩
        · exact absurd q.1 e
        · have l12 : l0 < 12 := by
            by_cases z : l0 < 12
            · exact z
            · rw [bit_hi (n := 12) m12 (by omega)] at q2; cases q2
          have : 1 ≤ pop (m ^^^ yD y) := pop_pos l12 (by rw [Nat.testBit_xor, q2, q3]; rfl)
          exact ⟨pop (m ^^^ yD y) - 1, by omega⟩
      rw [hn, fct_s]
      have each : ∀ l, l < 13 → Wy s y a b tt1 m l ≤ if (m ^^^ yD y).testBit l = true then fct n else 0 := fun l hl => by
        by_cases z : 0 < Wy s y a b tt1 m l
        · rcases CW_last z with q | ⟨_, q2, q3⟩
          · exact absurd q.1 e
          · have l12 : l < 12 := by
              by_cases z : l < 12
              · exact z
              · rw [bit_hi (n := 12) m12 (by omega)] at q2; cases q2
            rw [if_pos (by rw [Nat.testBit_xor, q2, q3]; rfl)]
            have lt := xor_lt q2
            have pp := pop_or l12 (xor_no q2)
            rw [xor_or q2] at pp
            have i := ih _ lt
            rw [show pop (m ^^^ 2 ^ l) - pop (yD y) = n by omega] at i
            refine Nat.le_trans ?_ i
            show CW (mvG s y a b) (yD y) (yL y) tt1 m l ≤ _
            rw [CW_eq, if_pos ⟨q2, rfl⟩]
            have s0 : stF (yD y) (yL y) m l = 0 := by unfold stF; rw [if_neg (fun q => e q.1)]
            rw [s0, Nat.zero_add]
            refine sumF_le2 (fun k _ => ?_)
            unfold tmF
            split
            · exact Nat.le_refl _
            · exact Nat.zero_le _
        · omega
      refine Nat.le_trans (sumF_le2 each) ?_
      have := sumF_cnt (p := (m ^^^ yD y).testBit) (f := fun _ => fct n) (v := fct n) (fun _ _ => Nat.le_refl _) 13
      refine Nat.le_trans this ?_
      have c13 : cnt (m ^^^ yD y).testBit 13 = pop (m ^^^ yD y) := by
        have hx : m ^^^ yD y < 2 ^ 12 := sub_xor_lt (n := 12) m12 (wy.m12 w)
        show cnt (m ^^^ yD y).testBit 12 + (if (m ^^^ yD y).testBit 12 = true then 1 else 0) = _
        rw [bit_hi hx (by omega)]
        rfl
      rw [c13, px.1, hn]
      exact Nat.le_refl _
  · have : TT s y a b m = 0 := sumF_0 (fun k _ => by
      by_cases z : 0 < Wy s y a b tt1 m k
      · exact absurd ⟨k, z⟩ ex
      · omega)
    rw [this]
    exact Nat.zero_le _
theorem TT_12 {s : ST} (w : WFS s) {y : DY} (wy : WFY s y) {a b m : Nat} : TT s y a b m ≤ 479001600 := Nat.le_trans (TT_le w wy m) (fct_12 (by have := pop_le m; omega))
/-! sums by ranks -/
def PSm (s : ST) (r : Nat) (g : Nat → Nat) : Nat := sumF (fun l => if rnk s l < r then g l else 0) 13
def PEq (s : ST) (r : Nat) (g : Nat → Nat) : Nat := sumF (fun l => if rnk s l = r then g l else 0) 13
theorem PSm_s (s : ST) (r : Nat) (g : Nat → Nat) : PSm s (r + 1) g = PSm s r g + PEq s r g := by
  unfold PSm PEq
  rw [← sumF_add]
  refine sumF_congr (fun l _ => ?_)
  by_cases q : rnk s l < r
  · rw [if_pos (by omega), if_pos q, if_neg (by omega), Nat.add_zero]
  · by_cases q2 : rnk s l = r
    · rw [if_pos (by omega), if_neg q, if_pos q2]; omega
    · rw [if_neg (by omega), if_neg q, if_neg q2]
theorem PSm_0 (s : ST) (g : Nat → Nat) : PSm s 0 g = 0 := sumF_0 (fun l _ => by rw [if_neg (Nat.not_lt_zero _)])
theorem PSm_w {s : ST} {g : Nat → Nat} (h : ∀ l, 0 < g l → l = 12 ∨ l < sN s) : PSm s (wdt s) g = sumF g 13 := sumF_congr (fun l _ => by
  by_cases z : 0 < g l
  · rw [if_pos (rnk_lt (h l z))]
  · split <;> omega)
theorem PSm_le {s : ST} (r : Nat) {g f : Nat → Nat} (h : ∀ l, g l ≤ f l) : PSm s r g ≤ sumF f 13 := sumF_le2 (fun l _ => by
  split
  · exact h l
  · exact Nat.zero_le _)
theorem PEq_le {s : ST} (r : Nat) (g : Nat → Nat) : PEq s r g ≤ sumF g 13 := sumF_le2 (fun l _ => by
  split
  · exact Nat.le_refl _
  · exact Nat.zero_le _)
/-- a property that all of a rank share -/
theorem PEq_if {s : ST} {r : Nat} {g : Nat → Nat} {p : Nat → Bool} {q : Bool} (h : ∀ l, rnk s l = r → 0 < g l → p l = q) : PEq s r (fun l => if p l = true then g l else 0) = if q = true then PEq s r g else 0 := by
  cases q with
  | true =>
    rw [if_pos rfl]
    refine sumF_congr (fun l _ => ?_)
    by_cases e : rnk s l = r
    · rw [if_pos e, if_pos e]
      show (if p l = true then g l else 0) = g l
      by_cases z : 0 < g l
      · rw [h l e z, if_pos rfl]
      · split <;> omega
    · rw [if_neg e, if_neg e]
  | false =>
    rw [if_neg (by decide)]
    refine sumF_0 (fun l _ => ?_)
    by_cases e : rnk s l = r
    · rw [if_pos e]
      show (if p l = true then g l else 0) = 0
      by_cases z : 0 < g l
      · rw [h l e z, if_neg (by decide)]
      · split <;> omega
    · rw [if_neg e]
theorem PEq_0 {s : ST} {r : Nat} {g : Nat → Nat} (h : ∀ l, rnk s l = r → g l = 0) : PEq s r g = 0 := sumF_0 (fun l _ => by
  by_cases e : rnk s l = r
  · rw [if_pos e, h l e]
  · rw [if_neg e])
abbrev FPo (va : Nat) (h h' : AH) : Prop := Fr (fun x _ => x = va) (fun x _ => x = 57) h h'
theorem PHd.po {T : Nat → Nat} {s : ST} {p : Nat} {y : DY} {a b ar mo va : Nat} {h h' : AH} (P : PHd T s p y a b ar mo va h) {J : Nat → Nat → Prop} (e : Fr (fun x _ => x = va) J h h') : PHd T s p y a b ar mo va h' := P.fr e (fun x k z => by
  subst z
  have := P.xv.2.1
  exact ⟨by omega, P.xv.out (by omega) (by omega), fun z => absurd z (P.xv.out (by omega) (by omega))⟩)
/-- the place of the stand behind a stroke -/
def ixS (s : ST) (k c : Nat) : Nat := (k ||| 2 ^ c) * wdt s + rnk s c
theorem ixS_inj {s : ST} {k c c' : Nat} (h1 : k.testBit c = false) (h2 : k.testBit c' = false) (r1 : rnk s c < wdt s) (r2 : rnk s c' < wdt s) (e : ixS s k c = ixS s k c') : c = c' := by
  have := (idx_inj r1 r2 e).1
  have b := or_self_bit k c
  rw [this, Nat.testBit_or, h1, two_bit] at b
  simp at b
  exact b.symm
theorem Pa_passOn_g {T : Nat → Nat} {s : ST} {p : Nat} {y : DY} {a b ar mo va : Nat} {h : AH} (P : PHd T s p y a b ar mo va h) {k op tog : Nat} (hk : k < 2 ^ sN s) (ho : ∀ c, op.testBit c = true → c < sN s ∧ k.testBit c = false) (hop : op < 4096) (ht : tog < 2147483648) {S0 : Int} (j19 : jvA h 57 19 = kJ S0) {g : Nat → Int} (V : ∀ c, c < sN s → k.testBit c = false → ivA h va (ixS s k c) = kI (g c)) : GV 1 m_Pa_passOn [.ref 57, .int (kI ((k * wdt s : Nat) : Int)), .int (kI op), .int (kI tog)] h (fun h' => FPo va h h' ∧ (∀ j, j ≠ 19 → jvA h' 57 j = jvA h 57 j) ∧ jvA h' 57 19 = kJ (S0 + (if op = 0 then tog else 0 : Nat)) ∧ (∀ c, c < sN s → k.testBit c = false → ivA h' va (ixS s k c) = kI (g c + (if op.testBit c = true then tog else 0 : Nat))) ∧ ∀ i, (∀ c, c < sN s → k.testBit c = false → i ≠ ixS s k c) → ivA h' va i = ivA h va i) := by
  have F := P.F
  have w := P.S.wf
  have pn := P.n
  have n2 := w.n12
  have wd := wdt_b w
  have bs : k * wdt s ≤ 60000 := by
    have := Nat.mul_le_mul (show k ≤ 4095 by omega) wd.2
    omega
  have v57 := P.xv.out (i := 57) (by omega) (by omega)
  refine GVo (s_Pa_passOn_0 ?_)
  have loop : ∀ h1, Fr I0 (fun x j => x = 57 ∧ j = 19) h h1 → jvA h1 57 19 = kJ (S0 + (if op = 0 then tog else 0 : Nat)) → Safe 0 m_Pa_passOn (18, [.ref 57, .int (kI ((k * wdt s : Nat) : Int)), .int (kI op), .int (kI tog), .int (kI 0)], [], h1) (fun v h' => Eqv v none ∧ FPo va h h' ∧ (∀ j, j ≠ 19 → jvA h' 57 j = jvA h 57 j) ∧ jvA h' 57 19 = kJ (S0 + (if op = 0 then tog else 0 : Nat)) ∧ (∀ c, c < sN s → k.testBit c = false → ivA h' va (ixS s k c) = kI (g c + (if op.testBit c = true then tog else 0 : Nat))) ∧ ∀ i, (∀ c, c < sN s → k.testBit c = false → i ≠ ixS s k c) → ivA h' va i = ivA h va i) := by
    intro h1 e1 J1
    have fe1 : FPo va h h1 := e1.mono (fun _ _ z => z.elim) (fun x j z => z.1)
    have iv1 : ∀ x j, ivA h1 x j = ivA h x j := fun x j => e1.2.2.2.2.2.1 x j (fun z => z)
    suffices H : ∀ j, j ≤ 12 → ∀ h2, FVa va h1 h2 → (∀ c, c < sN s → k.testBit c = false → ivA h2 va (ixS s k c) = kI (g c + (if op.testBit c = true ∧ c < j then tog else 0 : Nat))) → (∀ i, (∀ c, c < sN s → k.testBit c = false → i ≠ ixS s k c) → ivA h2 va i = ivA h va i) → Safe 0 m_Pa_passOn (18, [.ref 57, .int (kI ((k * wdt s : Nat) : Int)), .int (kI op), .int (kI tog), .int (kI j)], [], h2) (fun v h' => Eqv v none ∧ FPo va h h' ∧ (∀ j, j ≠ 19 → jvA h' 57 j = jvA h 57 j) ∧ jvA h' 57 19 = kJ (S0 + (if op = 0 then tog else 0 : Nat)) ∧ (∀ c, c < sN s → k.testBit c = false → ivA h' va (ixS s k c) = kI (g c + (if op.testBit c = true then tog else 0 : Nat))) ∧ ∀ i, (∀ c, c < sN s → k.testBit c = false → i ≠ ixS s k c) → ivA h' va i = ivA h va i) by
      exact H 0 (by omega) h1 (Fr_rfl _ _ _) (fun c c1 c2 => by rw [iv1, if_neg (by omega), V c c1 c2]; congr 1; omega) (fun i _ => iv1 _ _)
    have fin : ∀ j h2, FVa va h1 h2 → (∀ c, c < sN s → k.testBit c = false → ivA h2 va (ixS s k c) = kI (g c + (if op.testBit c = true ∧ c < j then tog else 0 : Nat))) → (∀ i, (∀ c, c < sN s → k.testBit c = false → i ≠ ixS s k c) → ivA h2 va i = ivA h va i) → (∀ c, op.testBit c = true → c < j) → Eqv none none ∧ FPo va h h2 ∧ (∀ j, j ≠ 19 → jvA h2 57 j = jvA h 57 j) ∧ jvA h2 57 19 = kJ (S0 + (if op = 0 then tog else 0 : Nat)) ∧ (∀ c, c < sN s → k.testBit c = false → ivA h2 va (ixS s k c) = kI (g c + (if op.testBit c = true then tog else 0 : Nat))) ∧ ∀ i, (∀ c, c < sN s → k.testBit c = false → i ≠ ixS s k c) → ivA h2 va i = ivA h va i := by
      intro j h2 e2 A2 B2 lt
      refine ⟨rfl, fe1.trans (e2.mono (fun _ _ z => z) (fun _ _ z => z.elim)), fun i hi => ?_, ?_, fun c c1 c2 => ?_, B2⟩
      · rw [e2.2.2.2.2.2.2 57 i (fun z => z), e1.2.2.2.2.2.2 57 i (fun z => hi z.2)]
      · rw [e2.2.2.2.2.2.2 57 19 (fun z => z)]; exact J1
      · rw [A2 c c1 c2]
        by_cases z : op.testBit c = true
        · rw [if_pos ⟨z, lt c z⟩, if_pos z]
        · rw [if_neg (fun q => z q.1), if_neg z]
    refine down_ind 12 ?_ ?_
    · intro h2 e2 A2 B2
      have P2 := (P.po fe1).po e2
      refine s_Pa_passOn_18 ?_
      rw [kd_57 P2.F, rv_57_8 P2.F, kd_58 P2.F, ln_58 P2.F, if_pos (by decide)]
      exact ⟨rfl, rfl, fin 12 h2 e2 A2 B2 (fun c hc => by have := (ho c hc).1; omega)⟩
    · intro j hj ih h2 e2 A2 B2
      have P2 := (P.po fe1).po e2
      have F2 := P2.F
      refine s_Pa_passOn_18 ?_
      rw [kI_bit (by omega) (by omega), kI_shr (by omega) (by omega)]
      refine ⟨by rw [kd_57 F2]; rfl, by rw [rv_57_8 F2, kd_58 F2]; rfl, ?_⟩
      rw [if_neg (by rw [rv_57_8 F2, ln_58 F2, decide_eq_true_eq, kI_le (by omega) (by omega) (by omega) (by omega)]; omega)]
      have dl : op / 2 ^ j ≤ op := Nat.div_le_self _ _
      have dz : 0 ≤ ((op / 2 ^ j : Nat) : Int) := Int.natCast_nonneg _
      by_cases q0 : op / 2 ^ j = 0
      · rw [if_pos (by rw [q0]; decide)]
        exact fin j h2 e2 A2 B2 (fun c hc => by
          by_cases z : c < j
          · exact z
          · rw [shr0 q0 c (by omega)] at hc; cases hc)
      · rw [if_neg (by rw [decide_eq_true_eq, z0, kI_inj (by omega) (by omega) (by omega) (by omega)]; omega)]
        by_cases qb : op.testBit j = true
        · have oj := ho j qb
          have rj := rnk_lt (s := s) (l := j) (Or.inr oj.1)
          have lt := idx_lt (or_lt2 hk oj.1) rj
          have lv := P2.xv.2.2.2.2.1
          have ej : kI ((k * wdt s : Nat) : Int) + kI ((wdt s * 2 ^ j + rnk s j : Nat) : Int) = kI ((ixS s k j : Nat) : Int) := by
            unfold ixS
            rw [← leap_idx oj.2, kI_add]; rfl
          have ib : ixS s k j < lnA h2 va := by unfold ixS; omega
          have il : ixS s k j < 60000 := by have := P2.xv.2.2.2.2.2; omega
          rw [if_neg (by rw [dec_b0]; exact fun z => z qb), kd_57 F2, rv_57_8 F2, kd_58 F2, ln_58 F2, ix_kI (by omega), P2.lp j hj, ej, P2.r11, P2.xv.2.2.2.1, ix_kI (by omega), A2 j oj.1 oj.2, if_neg (by omega), kI_add, kI_add]
          refine ⟨rfl, rfl, rfl, inB_kI (by omega) hj, rfl, inB_kI (by omega) ib, rfl, inB_kI (by omega) ib, ?_⟩
          refine ih _ (e2.stI rfl _) (fun c c1 c2 => ?_) (fun i hi => ?_)
          · rw [iv_stI]
            by_cases z : c = j
            · subst z
              rw [if_pos ⟨rfl, rfl⟩, if_pos ⟨qb, by omega⟩]
              congr 1
              omega
            · have rc := rnk_lt (s := s) (l := c) (Or.inr c1)
              rw [if_neg (fun q => z (ixS_inj c2 oj.2 rc rj q.2)), A2 c c1 c2]
              congr 2
              by_cases q : op.testBit c = true ∧ c < j
              · rw [if_pos q, if_pos ⟨q.1, by omega⟩]
              · rw [if_neg q, if_neg (fun q2 => q ⟨q2.1, by omega⟩)]
          · rw [iv_stI, if_neg (fun q => hi j oj.1 oj.2 q.2)]
            exact B2 i hi
        · rw [if_pos (by rw [dec_b0]; exact qb), kI_add]
          refine ih h2 e2 (fun c c1 c2 => ?_) B2
          rw [A2 c c1 c2]
          congr 2
          by_cases q : op.testBit c = true ∧ c < j
          · rw [if_pos q, if_pos ⟨q.1, by omega⟩]
          · rw [if_neg q, if_neg (fun q2 => q ⟨q2.1, by
              by_cases z : c = j
              · rw [z] at q2; exact absurd q2.1 qb
              · omega⟩)]
  by_cases q : op = 0
  · rw [if_neg (by rw [q]; decide), kd_57 F, j19, kI_long (by omega) (by omega), kJ_add]
    refine ⟨rfl, rfl, loop _ ((Fr_rfl I0 (fun x j => x = 57 ∧ j = 19) h).stJ ⟨rfl, rfl⟩ _) ?_⟩
    rw [jv_stJ, if_pos ⟨rfl, rfl⟩, if_pos q]
  · rw [if_pos (by rw [Bool.not_eq_true', decide_eq_false_iff_not, z0, kI_inj (by omega) (by omega) (by omega) (by omega)]; omega)]
    refine loop h (Fr_rfl _ _ _) ?_
    rw [if_neg q, j19]
    congr 1
    omega
