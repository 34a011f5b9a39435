/-! in how many ways a stand comes about -/
theorem sumF_s (f : Nat → Nat) (k : Nat) : sumF f (k + 1) = sumF f k + f k := rfl
theorem sumF_0 {f : Nat → Nat} : ∀ {n : Nat}, (∀ k, k < n → f k = 0) → sumF f n = 0
  | 0, _ => rfl
  | n + 1, h => by rw [sumF_s, sumF_0 (fun k hk => h k (by omega)), h n (by omega)]
theorem sumF_congr {f g : Nat → Nat} : ∀ {n : Nat}, (∀ k, k < n → f k = g k) → sumF f n = sumF g n
  | 0, _ => rfl
  | n + 1, h => by rw [sumF_s, sumF_s, sumF_congr (fun k hk => h k (by omega)), h n (by omega)]
theorem sumF_ex {f : Nat → Nat} : ∀ {n : Nat}, 0 < sumF f n → ∃ k, k < n ∧ 0 < f k
  | 0, h => absurd h (Nat.lt_irrefl 0)
  | n + 1, h => by
    rw [sumF_s] at h
    by_cases q : 0 < f n
    · exact ⟨n, by omega, q⟩
    · obtain ⟨k, h1, h2⟩ := sumF_ex (f := f) (n := n) (by omega)
      exact ⟨k, by omega, h2⟩
theorem sumF_ge {f : Nat → Nat} {k : Nat} : ∀ {n : Nat}, k < n → f k ≤ sumF f n
  | 0, h => by omega
  | n + 1, h => by
    rw [sumF_s]
    by_cases e : k = n
    · rw [e]; omega
    · have := sumF_ge (f := f) (k := k) (n := n) (by omega)
      omega
theorem sumF_flat (f : Nat → Nat) : ∀ n, sumF f (13 * n) = sumF (fun m => sumF (fun l => f (13 * m + l)) 13) n
  | 0 => rfl
  | n + 1 => by
    rw [sumF_s, ← sumF_flat f n, show 13 * (n + 1) = 13 * n + 13 by omega]
    have : ∀ t, sumF f (13 * n + t) = sumF f (13 * n) + sumF (fun l => f (13 * n + l)) t := by
      intro t
      induction t with
      | zero => rfl
      | succ t ih =>
        rw [show 13 * n + (t + 1) = 13 * n + t + 1 by omega, sumF_s, sumF_s, ih]
        omega
    exact this 13
theorem xor_or {m l : Nat} (h : m.testBit l = true) : (m ^^^ 2 ^ l) ||| 2 ^ l = m := by
  refine bit_ext (fun k => ?_)
  rw [Nat.testBit_or, Nat.testBit_xor, two_bit]
  by_cases e : l = k
  · subst e; simp [h]
  · simp [e]
theorem or_xor {m c : Nat} (h : m.testBit c = false) : (m ||| 2 ^ c) ^^^ 2 ^ c = m := by
  refine bit_ext (fun k => ?_)
  rw [Nat.testBit_xor, Nat.testBit_or, two_bit]
  by_cases e : c = k
  · subst e; simp [h]
  · simp [e]
theorem xor_no {m l : Nat} (h : m.testBit l = true) : (m ^^^ 2 ^ l).testBit l = false := by
  rw [Nat.testBit_xor, two_bit, h]
  simp
theorem xor_lt {m l : Nat} (h : m.testBit l = true) : m ^^^ 2 ^ l < m := by
  have h1 := bit_lt (xor_no h)
  rw [xor_or h] at h1
  exact h1
def stF (D L m l : Nat) : Nat := if m = D ∧ l = L then 1 else 0
def cwF (mv : Nat → Nat → Nat) (D L : Nat) (bt : Nat → Bool) : Nat → Nat → Nat → Nat
  | 0, _, _ => 0
  | n + 1, m, l => stF D L m l + (if m.testBit l = true ∧ bt l = true then sumF (fun l' => if (mv (m ^^^ 2 ^ l) l').testBit l = true then cwF mv D L bt n (m ^^^ 2 ^ l) l' else 0) 13 else 0)
def CW (mv : Nat → Nat → Nat) (D L : Nat) (bt : Nat → Bool) (m l : Nat) : Nat := cwF mv D L bt (m + 1) m l
theorem cwF_s (mv : Nat → Nat → Nat) (D L : Nat) (bt : Nat → Bool) (n m l : Nat) : cwF mv D L bt (n + 1) m l = stF D L m l + (if m.testBit l = true ∧ bt l = true then sumF (fun l' => if (mv (m ^^^ 2 ^ l) l').testBit l = true then cwF mv D L bt n (m ^^^ 2 ^ l) l' else 0) 13 else 0) := rfl
theorem cw_up {mv : Nat → Nat → Nat} {D L : Nat} {bt : Nat → Bool} : ∀ n m l, m < n → cwF mv D L bt (n + 1) m l = cwF mv D L bt n m l := by
  intro n
  induction n with
  | zero => intro m l h; omega
  | succ n ih =>
    intro m l h
    rw [cwF_s, cwF_s mv D L bt n]
    by_cases q : m.testBit l = true ∧ bt l = true
    · rw [if_pos q, if_pos q]
      congr 1
      refine sumF_congr (fun k _ => ?_)
      have := xor_lt q.1
      rw [ih (m ^^^ 2 ^ l) k (by omega)]
    · rw [if_neg q, if_neg q]
theorem cw_fuel {mv : Nat → Nat → Nat} {D L : Nat} {bt : Nat → Bool} {m l : Nat} : ∀ n, m < n → cwF mv D L bt n m l = CW mv D L bt m l := by
  intro n
  induction n with
  | zero => intro h; omega
  | succ n ih =>
    intro h
    by_cases e : m = n
    · subst e; rfl
    · rw [cw_up n m l (by omega)]
      exact ih (by omega)
def tmF (mv : Nat → Nat → Nat) (D L : Nat) (bt : Nat → Bool) (m c l' : Nat) : Nat := if (mv (m ^^^ 2 ^ c) l').testBit c = true then CW mv D L bt (m ^^^ 2 ^ c) l' else 0
theorem CW_eq (mv : Nat → Nat → Nat) (D L : Nat) (bt : Nat → Bool) (m l : Nat) : CW mv D L bt m l = stF D L m l + (if m.testBit l = true ∧ bt l = true then sumF (tmF mv D L bt m l) 13 else 0) := by
  show cwF mv D L bt (m + 1) m l = _
  rw [cwF_s]
  by_cases q : m.testBit l = true ∧ bt l = true
  · rw [if_pos q, if_pos q]
    congr 1
    refine sumF_congr (fun k _ => ?_)
    unfold tmF
    rw [cw_fuel m (xor_lt q.1)]
  · rw [if_neg q, if_neg q]
/-- a stand that comes about has a stand ahead of it, or is the first -/
theorem CW_pos {mv : Nat → Nat → Nat} {D L : Nat} {bt : Nat → Bool} {m l : Nat} : 0 < CW mv D L bt m l ↔ ((m = D ∧ l = L) ∨ (m.testBit l = true ∧ bt l = true ∧ ∃ l', l' < 13 ∧ (mv (m ^^^ 2 ^ l) l').testBit l = true ∧ 0 < CW mv D L bt (m ^^^ 2 ^ l) l')) := by
  rw [CW_eq]
  unfold stF
  constructor
  · intro h
    by_cases q0 : m = D ∧ l = L
    · exact Or.inl q0
    · rw [if_neg q0] at h
      by_cases q : m.testBit l = true ∧ bt l = true
      · rw [if_pos q] at h
        obtain ⟨k, h1, h2⟩ := sumF_ex (f := tmF mv D L bt m l) (n := 13) (by omega)
        unfold tmF at h2
        by_cases q2 : (mv (m ^^^ 2 ^ l) k).testBit l = true
        · rw [if_pos q2] at h2
          exact Or.inr ⟨q.1, q.2, k, h1, q2, h2⟩
        · rw [if_neg q2] at h2; omega
      · rw [if_neg q] at h; omega
  · rintro (q0 | ⟨q1, q2, k, h1, q3, h2⟩)
    · rw [if_pos q0]; omega
    · rw [if_pos (show m.testBit l = true ∧ bt l = true from ⟨q1, q2⟩)]
      have := sumF_ge (f := tmF mv D L bt m l) (n := 13) h1
      have e : tmF mv D L bt m l k = CW mv D L bt (m ^^^ 2 ^ l) k := by unfold tmF; rw [if_pos q3]
      omega
theorem CW_step {mv : Nat → Nat → Nat} (O : OKm mv) {D L : Nat} {bt : Nat → Bool} {m l c : Nat} (hl : l < 13) (h : 0 < CW mv D L bt m l) (hb : (mv m l).testBit c = true) (hc : bt c = true) : 0 < CW mv D L bt (m ||| 2 ^ c) c := by
  have o := O m l c hb
  refine CW_pos.mpr (Or.inr ⟨or_self_bit m c, hc, l, hl, ?_, ?_⟩)
  · rw [or_xor o.2]; exact hb
  · rw [or_xor o.2]; exact h
theorem lt_ind {P : Nat → Prop} (step : ∀ m, (∀ k, k < m → P k) → P m) : ∀ m, P m := fun m => Nat.strongRecOn m (fun m ih => step m ih)
theorem CW_sub {mv : Nat → Nat → Nat} {D L : Nat} {bt : Nat → Bool} : ∀ m l, 0 < CW mv D L bt m l → subB D m := by
  refine lt_ind (fun m ih l h => ?_)
  rcases CW_pos.mp h with q | ⟨q1, q2, k, h1, q3, h2⟩
  · rw [q.1]; exact subB_refl D
  · have := subB_or l (ih _ (xor_lt q1) k h2)
    rw [xor_or q1] at this
    exact this
theorem CW_lo {mv : Nat → Nat → Nat} {D L : Nat} {bt : Nat → Bool} {m l : Nat} (h : m < D) : CW mv D L bt m l = 0 := by
  by_cases q : 0 < CW mv D L bt m l
  · have := le_of_sub (CW_sub m l q)
    omega
  · omega
theorem CW_hi {mv : Nat → Nat → Nat} {D L : Nat} {bt : Nat → Bool} {N : Nat} (hN : ∀ m l c, (mv m l).testBit c = true → c < N) (hD : D < 2 ^ N) : ∀ m l, 0 < CW mv D L bt m l → m < 2 ^ N := by
  refine lt_ind (fun m ih l h => ?_)
  rcases CW_pos.mp h with q | ⟨q1, q2, k, h1, q3, h2⟩
  · rw [q.1]; exact hD
  · have := or_lt2 (ih _ (xor_lt q1) k h2) (hN _ _ _ q3)
    rw [xor_or q1] at this
    exact this
theorem CW_le {mv : Nat → Nat → Nat} {D L : Nat} {bt : Nat → Bool} : ∀ m l, m < 4096 → CW mv D L bt m l ≤ 14 ^ pop m := by
  refine lt_ind (fun m ih l hm => ?_)
  rw [CW_eq]
  have s1 : stF D L m l ≤ 1 := by unfold stF; split <;> omega
  have p1 : 1 ≤ 14 ^ pop m := Nat.one_le_pow _ _ (by omega)
  by_cases q : m.testBit l = true ∧ bt l = true
  · rw [if_pos q]
    have lt := xor_lt q.1
    have l12 : l < 12 := by
      by_cases z : l < 12
      · exact z
      · rw [bit_hi (n := 12) hm (by omega)] at q; cases q.1
    have pp := pop_or l12 (xor_no q.1)
    rw [xor_or q.1] at pp
    have b : ∀ k, tmF mv D L bt m l k ≤ 14 ^ pop (m ^^^ 2 ^ l) := fun k => by
      unfold tmF
      split
      · exact ih _ lt k (by omega)
      · exact Nat.zero_le _
    have := sumF_le b 13
    rw [pp, Nat.pow_succ]
    have p2 : 1 ≤ 14 ^ pop (m ^^^ 2 ^ l) := Nat.one_le_pow _ _ (by omega)
    omega
  · rw [if_neg q]
    omega
theorem CW_lt {mv : Nat → Nat → Nat} {D L : Nat} {bt : Nat → Bool} {m l : Nat} (hm : m < 4096) : CW mv D L bt m l < 9223372036854775808 := by
  have h1 := CW_le (mv := mv) (D := D) (L := L) (bt := bt) m l hm
  have h2 := pop_le m
  have h3 : 14 ^ pop m ≤ 14 ^ 12 := Nat.pow_le_pow_right (by omega) h2
  have h4 : (14 : Nat) ^ 12 < 9223372036854775808 := by decide
  omega
/-- of last cells: one told by the mask -/
theorem CW_last {mv : Nat → Nat → Nat} {D L : Nat} {bt : Nat → Bool} {m l : Nat} (h : 0 < CW mv D L bt m l) : (m = D ∧ l = L) ∨ (m ≠ D ∧ m.testBit l = true ∧ D.testBit l = false) := by
  by_cases e : m = D ∧ l = L
  · exact Or.inl e
  · right
    rcases CW_pos.mp h with q | ⟨q1, q2, k, h1, q3, h2⟩
    · exact absurd q e
    · have sb := CW_sub _ _ h2
      have dl : D.testBit l = false := by
        cases z : D.testBit l
        · rfl
        · have := sb l z
          rw [xor_no q1] at this; cases this
      refine ⟨fun z => ?_, q1, dl⟩
      rw [z, dl] at q1
      cases q1
/-! the table as it grows -/
def EW (mv : Nat → Nat → Nat) (D L : Nat) (bt : Nat → Bool) (k l m c : Nat) : Nat := stF D L m c + (if m.testBit c = true ∧ bt c = true then sumF (tmF mv D L bt m c) (if m ^^^ 2 ^ c < k then 13 else if m ^^^ 2 ^ c = k then l else 0) else 0)
theorem EW_done {mv : Nat → Nat → Nat} {D L : Nat} {bt : Nat → Bool} {k l m c : Nat} (h : m ≤ k) : EW mv D L bt k l m c = CW mv D L bt m c := by
  rw [CW_eq]
  unfold EW
  by_cases q : m.testBit c = true ∧ bt c = true
  · have := xor_lt q.1
    rw [if_pos q, if_pos q, if_pos (by omega)]
  · rw [if_neg q, if_neg q]
theorem EW_next (mv : Nat → Nat → Nat) (D L : Nat) (bt : Nat → Bool) (k m c : Nat) : EW mv D L bt k 13 m c = EW mv D L bt (k + 1) 0 m c := by
  unfold EW
  congr 2
  by_cases q : m ^^^ 2 ^ c < k
  · rw [if_pos q, if_pos (by omega)]
  · rw [if_neg q]
    by_cases q2 : m ^^^ 2 ^ c = k
    · rw [if_pos q2, if_pos (by omega)]
    · rw [if_neg q2, if_neg (by omega)]
      split <;> rfl
theorem EW_0 (mv : Nat → Nat → Nat) (D L : Nat) (bt : Nat → Bool) (m c : Nat) : EW mv D L bt D 0 m c = stF D L m c := by
  unfold EW
  have : (if m.testBit c = true ∧ bt c = true then sumF (tmF mv D L bt m c) (if m ^^^ 2 ^ c < D then 13 else if m ^^^ 2 ^ c = D then 0 else 0) else 0) = 0 := by
    by_cases q : m.testBit c = true ∧ bt c = true
    · rw [if_pos q]
      by_cases q2 : m ^^^ 2 ^ c < D
      · rw [if_pos q2]
        refine sumF_0 (fun k _ => ?_)
        unfold tmF
        rw [CW_lo q2]
        split <;> rfl
      · rw [if_neg q2]
        split <;> rfl
    · rw [if_neg q]
  omega
theorem EW_step (mv : Nat → Nat → Nat) (D L : Nat) (bt : Nat → Bool) (k l m c : Nat) : EW mv D L bt k (l + 1) m c = EW mv D L bt k l m c + (if m.testBit c = true ∧ bt c = true ∧ m ^^^ 2 ^ c = k ∧ (mv k l).testBit c = true then CW mv D L bt k l else 0) := by
  unfold EW
  by_cases q : m.testBit c = true ∧ bt c = true
  · rw [if_pos q, if_pos q]
    by_cases q2 : m ^^^ 2 ^ c < k
    · rw [if_pos q2, if_pos q2, if_neg (by omega)]
      omega
    · rw [if_neg q2, if_neg q2]
      by_cases q3 : m ^^^ 2 ^ c = k
      · rw [if_pos q3, if_pos q3, sumF_s]
        have : tmF mv D L bt m c l = if m.testBit c = true ∧ bt c = true ∧ m ^^^ 2 ^ c = k ∧ (mv k l).testBit c = true then CW mv D L bt k l else 0 := by
          unfold tmF
          rw [q3]
          by_cases q4 : (mv k l).testBit c = true
          · rw [if_pos q4, if_pos ⟨q.1, q.2, rfl, q4⟩]
          · rw [if_neg q4, if_neg (fun z => q4 z.2.2.2)]
        omega
      · rw [if_neg q3, if_neg q3, if_neg (fun z => q3 z.2.2.1)]
        omega
  · rw [if_neg q, if_neg q, if_neg (fun z => q ⟨z.1, z.2.1⟩)]
/-- at the end -/
theorem EW_end {mv : Nat → Nat → Nat} {D L : Nat} {bt : Nat → Bool} {N : Nat} (hN : ∀ m l c, (mv m l).testBit c = true → c < N) (hD : D < 2 ^ N) {m c : Nat} : EW mv D L bt (2 ^ N) 0 m c = CW mv D L bt m c := by
  by_cases h : m ≤ 2 ^ N
  · exact EW_done h
  · have z : CW mv D L bt m c = 0 := by
      by_cases q : 0 < CW mv D L bt m c
      · have := CW_hi hN hD m c q
        omega
      · omega
    rw [z]
    unfold EW
    have s0 : stF D L m c = 0 := by unfold stF; rw [if_neg (by omega)]
    rw [s0]
    by_cases q : m.testBit c = true ∧ bt c = true
    · rw [if_pos q, Nat.zero_add]
      refine sumF_0 (fun k hk => ?_)
      by_cases q2 : m ^^^ 2 ^ c < 2 ^ N
      · unfold tmF
        by_cases q4 : (mv (m ^^^ 2 ^ c) k).testBit c = true
        · have := or_lt2 q2 (hN _ _ _ q4)
          rw [xor_or q.1] at this
          omega
        · rw [if_neg q4]
      · rw [if_neg q2] at hk
        split at hk <;> omega
    · rw [if_neg q]
/-! ways that go past a cell -/
theorem CW_but {mv : Nat → Nat → Nat} {D L k : Nat} (hk : D.testBit k = false) : ∀ m l, (0 < CW mv D L (fun c => c != k) m l ↔ (0 < CW mv D L (fun _ => true) m l ∧ m.testBit k = false)) := by
  refine lt_ind (fun m ih l => ?_)
  constructor
  · intro h
    rcases CW_pos.mp h with q | ⟨q1, q2, j, h1, q3, h2⟩
    · exact ⟨CW_pos.mpr (Or.inl q), by rw [q.1]; exact hk⟩
    · obtain ⟨g1, g2⟩ := (ih _ (xor_lt q1) j).mp h2
      refine ⟨CW_pos.mpr (Or.inr ⟨q1, rfl, j, h1, q3, g1⟩), ?_⟩
      have e : ¬ l = k := by simpa using q2
      rw [← xor_or q1, Nat.testBit_or, g2, two_bit]
      simp [e]
  · rintro ⟨h, hm⟩
    rcases CW_pos.mp h with q | ⟨q1, q2, j, h1, q3, h2⟩
    · exact CW_pos.mpr (Or.inl q)
    · have e : l ≠ k := fun z => by rw [z, hm] at q1; cases q1
      have g : (m ^^^ 2 ^ l).testBit k = false := by
        rw [Nat.testBit_xor, hm, two_bit]
        simp [e]
      exact CW_pos.mpr (Or.inr ⟨q1, by simpa using e, j, h1, q3, (ih _ (xor_lt q1) j).mpr ⟨h2, g⟩⟩)
/-- a cell is drawn in some stand if it may be drawn at some -/
theorem CW_draw {mv : Nat → Nat → Nat} (O : OKm mv) {D L c : Nat} {bt : Nat → Bool} (hc : D.testBit c = false) (hb : bt c = true) : (∃ m l, l < 13 ∧ 0 < CW mv D L bt m l ∧ m.testBit c = true) ↔ (∃ m l, l < 13 ∧ 0 < CW mv D L bt m l ∧ (mv m l).testBit c = true) := by
  constructor
  · rintro ⟨m, l, hl, h1, h2⟩
    have key : ∀ m l, 0 < CW mv D L bt m l → m.testBit c = true → ∃ m l, l < 13 ∧ 0 < CW mv D L bt m l ∧ (mv m l).testBit c = true := by
      refine lt_ind (fun m ih l h1 h2 => ?_)
      rcases CW_pos.mp h1 with q | ⟨q1, q2, j, g1, q3, g2⟩
      · rw [q.1, hc] at h2; cases h2
      · by_cases e : l = c
        · subst e
          exact ⟨_, j, g1, g2, q3⟩
        · refine ih _ (xor_lt q1) j g2 ?_
          rw [Nat.testBit_xor, h2, two_bit]
          simp [e]
    exact key m l h1 h2
  · rintro ⟨m, l, hl, h1, h2⟩
    have o := O m l c h2
    exact ⟨m ||| 2 ^ c, c, by omega, CW_step O hl h1 h2 hb, or_self_bit m c⟩
