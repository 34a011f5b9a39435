/-! the first row of the right worth -/
def fsF (p : Nat → Bool) : Nat → Nat → Option Nat
  | _, 0 => none
  | k, n + 1 => if p k = true then some k else fsF p (k + 1) n
theorem fsF_s (p : Nat → Bool) (k n : Nat) : fsF p k (n + 1) = if p k = true then some k else fsF p (k + 1) n := rfl
theorem fsF_some {p : Nat → Bool} : ∀ n k c, fsF p k n = some c → k ≤ c ∧ c < k + n ∧ p c = true ∧ ∀ j, k ≤ j → j < c → p j = false
  | 0, _, _, h => by cases h
  | n + 1, k, c, h => by
    rw [fsF_s] at h
    by_cases q : p k = true
    · rw [if_pos q] at h
      cases h
      exact ⟨Nat.le_refl _, by omega, q, fun j h1 h2 => by omega⟩
    · rw [if_neg q] at h
      obtain ⟨h1, h2, h3, h4⟩ := fsF_some n (k + 1) c h
      refine ⟨by omega, by omega, h3, fun j g1 g2 => ?_⟩
      by_cases e : j = k
      · rw [e]; simpa using q
      · exact h4 j (by omega) g2
theorem fsF_none {p : Nat → Bool} : ∀ n k, fsF p k n = none → ∀ j, k ≤ j → j < k + n → p j = false
  | 0, _, _, j, h1, h2 => by omega
  | n + 1, k, h, j, h1, h2 => by
    rw [fsF_s] at h
    by_cases q : p k = true
    · rw [if_pos q] at h; cases h
    · rw [if_neg q] at h
      by_cases e : j = k
      · rw [e]; simpa using q
      · exact fsF_none n (k + 1) h j (by omega) (by omega)
theorem fsF_ex {p : Nat → Bool} {n k c : Nat} (h1 : k ≤ c) (h2 : c < k + n) (h3 : p c = true) : ∃ d, fsF p k n = some d := by
  cases e : fsF p k n with
  | none => rw [fsF_none n k e c h1 h2] at h3; cases h3
  | some d => exact ⟨d, rfl⟩
theorem fsF_congr {p q : Nat → Bool} (H : ∀ k, p k = q k) : ∀ n k, fsF p k n = fsF q k n
  | 0, _ => rfl
  | n + 1, k => by rw [fsF_s, fsF_s, H k, fsF_congr H n (k + 1)]
def wcF (s : ST) (y : DY) (aim c : Nat) : Int := if aim = 3 then odF s y c else 1
def ldB (s : ST) (y : DY) (a b aim tg m l c : Nat) : Bool := (mvG s y a b m l).testBit c && (if c = tg ∧ (aim = 2 ∨ aim = 0) then aim == 2 else decide (wcF s y aim c + WT s y a b aim tg (m ||| 2 ^ c) c = WT s y a b aim tg m l))
def endB (y : DY) (aim tg m : Nat) : Bool := (aim == 2 && m.testBit tg) || (aim == 3 && pop m - pop (yD y) == tg)
def ptF (s : ST) (y : DY) (a b aim tg : Nat) : Nat → Nat → Nat → List Nat
  | 0, _, _ => []
  | n + 1, m, l => if endB y aim tg m = true then [] else match fsF (ldB s y a b aim tg m l) 0 12 with
    | none => []
    | some c => c :: ptF s y a b aim tg n (m ||| 2 ^ c) c
theorem ptF_s (s : ST) (y : DY) (a b aim tg n m l : Nat) : ptF s y a b aim tg (n + 1) m l = if endB y aim tg m = true then [] else match fsF (ldB s y a b aim tg m l) 0 12 with
    | none => []
    | some c => c :: ptF s y a b aim tg n (m ||| 2 ^ c) c := rfl
def paF (s : ST) (y : DY) (a b aim tg : Nat) : List Nat := ptF s y a b aim tg 12 (yD y) (yL y)
theorem mxF_at {ok : Nat → Bool} {f : Nat → Int} : ∀ n, mxF ok f n = 0 ∨ ∃ c, c < n ∧ ok c = true ∧ mxF ok f n = 1 + f c
  | 0 => Or.inl rfl
  | n + 1 => by
    rw [mxF_s]
    by_cases q : ok n = true
    · rw [if_pos q]
      by_cases q2 : mxF ok f n < 1 + f n
      · rw [if_pos q2]; exact Or.inr ⟨n, by omega, q, rfl⟩
      · rw [if_neg q2]
        rcases mxF_at (ok := ok) (f := f) n with h | ⟨c, h1, h2, h3⟩
        · exact Or.inl h
        · exact Or.inr ⟨c, by omega, h2, h3⟩
    · rw [if_neg q]
      rcases mxF_at (ok := ok) (f := f) n with h | ⟨c, h1, h2, h3⟩
      · exact Or.inl h
      · exact Or.inr ⟨c, by omega, h2, h3⟩
theorem step_ex {s : ST} (w : WFS s) {y : DY} {a b aim tg m l : Nat} (ha : aim < 4) (hm : m < 4096) (he : endB y aim tg m = false) (hv : WT s y a b aim tg m l ≠ 1048576) (h0 : aim ≤ 1 → WT s y a b aim tg m l ≠ 0) : ∃ c, fsF (ldB s y a b aim tg m l) 0 12 = some c := by
  have mn : ∀ wt : Nat → Int, (∀ c, wt c = wcF s y aim c) → aim ≠ 0 → (aim = 2 → (mvG s y a b m l).testBit tg = false) → WT s y a b aim tg m l = mnF (mvG s y a b m l).testBit wt (fun c => WT s y a b aim tg (m ||| 2 ^ c) c) 12 → ∃ c, fsF (ldB s y a b aim tg m l) 0 12 = some c := by
    intro wt hw a0 a2 e
    rcases mnF_at (ok := (mvG s y a b m l).testBit) (w := wt) (f := fun c => WT s y a b aim tg (m ||| 2 ^ c) c) 12 with q | ⟨c, q1, q2, q3, q4⟩
    · rw [q] at e; exact absurd e hv
    · refine fsF_ex (c := c) (by omega) (by omega) ?_
      unfold ldB
      rw [q2, if_neg (fun z => by
        rcases z.2 with z2 | z2
        · rw [← z.1, q2] at a2; exact absurd (a2 z2) (by decide)
        · exact a0 z2)]
      rw [Bool.true_and, decide_eq_true_eq, ← hw c, e, q3]
  have eq := WT_eq w (y := y) (a := a) (b := b) (aim := aim) (tg := tg) (l := l) hm
  have e : aim = 0 ∨ aim = 1 ∨ aim = 2 ∨ aim = 3 := by omega
  rcases e with rfl | rfl | rfl | rfl
  · have eq0 : WT s y a b 0 tg m l = mxF (fun c => (mvG s y a b m l).testBit c && c != tg) (fun c => WT s y a b 0 tg (m ||| 2 ^ c) c) 12 := eq
    rcases mxF_at (ok := fun c => (mvG s y a b m l).testBit c && c != tg) (f := fun c => WT s y a b 0 tg (m ||| 2 ^ c) c) 12 with q | ⟨c, q1, q2, q3⟩
    · rw [q] at eq0; exact absurd eq0 (h0 (by omega))
    · simp only [Bool.and_eq_true, bne_iff_ne] at q2
      refine fsF_ex (c := c) (by omega) (by omega) ?_
      unfold ldB
      rw [q2.1, if_neg (fun z => q2.2 z.1), Bool.true_and, decide_eq_true_eq, eq0, q3]
      rfl
  · have eq0 : WT s y a b 1 tg m l = if mvG s y a b m l = 0 then 0 else mnF (mvG s y a b m l).testBit (fun _ => 1) (fun c => WT s y a b 1 tg (m ||| 2 ^ c) c) 12 := eq
    by_cases q : mvG s y a b m l = 0
    · rw [if_pos q] at eq0; exact absurd eq0 (h0 (by omega))
    · rw [if_neg q] at eq0
      exact mn (fun _ => 1) (fun _ => rfl) (by omega) (by omega) eq0
  · have eq0 : WT s y a b 2 tg m l = if (mvG s y a b m l).testBit tg = true then 1 else mnF (mvG s y a b m l).testBit (fun _ => 1) (fun c => WT s y a b 2 tg (m ||| 2 ^ c) c) 12 := eq
    by_cases q : (mvG s y a b m l).testBit tg = true
    · refine fsF_ex (c := tg) (by omega) (by have := (mvG_ok w y a b m l tg q).1; omega) ?_
      unfold ldB
      rw [q, if_pos ⟨rfl, Or.inl rfl⟩]
      rfl
    · rw [if_neg q] at eq0
      exact mn (fun _ => 1) (fun _ => rfl) (by omega) (fun _ => by simpa using q) eq0
  · have eq0 : WT s y a b 3 tg m l = if pop m - pop (yD y) = tg then 0 else mnF (mvG s y a b m l).testBit (odF s y) (fun c => WT s y a b 3 tg (m ||| 2 ^ c) c) 12 := eq
    rw [if_neg (fun z => by unfold endB at he; simp [z] at he)] at eq0
    exact mn (odF s y) (fun _ => rfl) (by omega) (by omega) eq0
/-- of the step that is taken -/
theorem step_of {s : ST} (w : WFS s) {y : DY} {a b aim tg m l c : Nat} (h : fsF (ldB s y a b aim tg m l) 0 12 = some c) : c < sN s ∧ m.testBit c = false ∧ (mvG s y a b m l).testBit c = true ∧ (aim = 0 → c ≠ tg) ∧ (¬ (aim = 2 ∧ c = tg) → wcF s y aim c + WT s y a b aim tg (m ||| 2 ^ c) c = WT s y a b aim tg m l) := by
  have := (fsF_some 12 0 c h).2.2.1
  unfold ldB at this
  rw [Bool.and_eq_true] at this
  have n := mvG_N w this.1
  refine ⟨n.1, n.2, this.1, fun e0 e1 => ?_, fun q => ?_⟩
  · have h2 := this.2
    rw [if_pos ⟨e1, Or.inr e0⟩, e0] at h2
    cases h2
  · have h2 := this.2
    by_cases q2 : c = tg ∧ (aim = 2 ∨ aim = 0)
    · rw [if_pos q2] at h2
      have h3 : aim = 2 := by simpa using h2
      exact absurd ⟨h3, q2.1⟩ q
    · rw [if_neg q2, decide_eq_true_eq] at h2
      exact h2
/-- the row is as long as its worth -/
theorem pt_len {s : ST} (w : WFS s) {y : DY} {a b aim tg : Nat} (ha : aim ≤ 2) : ∀ n m l, m < 4096 → 12 - pop m ≤ n → (aim = 2 → m.testBit tg = false) → (aim = 2 → WT s y a b aim tg m l ≠ 1048576) → ((ptF s y a b aim tg n m l).length : Int) = WT s y a b aim tg m l := by
  intro n
  induction n with
  | zero =>
    intro m l hm hn h2 hv
    have pl := pop_le m
    have e : aim = 0 ∨ aim = 1 ∨ aim = 2 := by omega
    show ((0 : Nat) : Int) = _
    rcases e with rfl | rfl | rfl
    · have := WT_01 w (y := y) (a := a) (b := b) (tg := tg) (l := l) (aim := 0) (Or.inl rfl) hm
      omega
    · have := WT_01 w (y := y) (a := a) (b := b) (tg := tg) (l := l) (aim := 1) (Or.inr rfl) hm
      omega
    · have g := WT_gd w (y := y) (a := a) (b := b) (aim := 2) (tg := tg) (l := l) (by omega) hm
      have h1 := WT_2 w (y := y) (a := a) (b := b) (tg := tg) (l := l) hm
      unfold Gd at g
      have := hv rfl
      omega
  | succ n ih =>
    intro m l hm hn h2 hv
    have he : endB y aim tg m = false := by
      unfold endB
      have a3 : (aim == 3) = false := by simp; omega
      rw [a3]
      by_cases e : aim = 2
      · rw [h2 e]; simp
      · have a2 : (aim == 2) = false := by simp; omega
        rw [a2]; rfl
    rw [ptF_s, if_neg (by rw [he]; decide)]
    cases e : fsF (ldB s y a b aim tg m l) 0 12 with
    | none =>
      show ((0 : Nat) : Int) = _
      by_cases q : aim ≤ 1
      · by_cases q0 : WT s y a b aim tg m l = 0
        · rw [q0]; rfl
        · have b01 := WT_01 w (y := y) (a := a) (b := b) (tg := tg) (l := l) (aim := aim) (by omega) hm
          obtain ⟨c, hc⟩ := step_ex w (by omega) hm he (by omega) (fun _ => q0)
          rw [e] at hc; cases hc
      · obtain ⟨c, hc⟩ := step_ex w (by omega) hm he (hv (by omega)) (fun z => absurd z q)
        rw [e] at hc; cases hc
    | some c =>
      obtain ⟨h3, h4, h5, h6, h7⟩ := step_of w e
      have n2 := w.n12
      have hp := pop_or (show c < 12 by omega) h4
      have hm' := or_4096 hm (show c < 12 by omega)
      show ((c :: ptF s y a b aim tg n (m ||| 2 ^ c) c).length : Int) = _
      rw [List.length_cons]
      by_cases q : aim = 2 ∧ c = tg
      · have hnil : ptF s y a b aim tg n (m ||| 2 ^ c) c = [] := by
          cases n with
          | zero => rfl
          | succ n =>
            rw [ptF_s, if_pos]
            unfold endB
            rw [q.1, ← q.2, or_self_bit]
            rfl
        rw [hnil]
        have eq := WT_eq w (y := y) (a := a) (b := b) (aim := aim) (tg := tg) (l := l) hm
        rw [eq]
        show _ = Vf (mvG s y a b) (yD y) (odF s y) aim tg m l _
        unfold Vf
        rw [q.1, if_neg (by omega), if_neg (by omega), if_pos rfl, if_pos (by rw [← q.2]; exact h5)]
        rfl
      · have h8 := h7 q
        have wc : wcF s y aim c = 1 := by unfold wcF; rw [if_neg (by omega)]
        rw [wc] at h8
        have := ih (m ||| 2 ^ c) c hm' (by omega) (fun e2 => by
          rw [Nat.testBit_or, h2 e2, two_bit]
          have : ¬ c = tg := fun z => q ⟨e2, z⟩
          simp [this]) (fun e2 => by
          have g := WT_gd w (y := y) (a := a) (b := b) (aim := aim) (tg := tg) (l := l) (by omega) hm
          unfold Gd at g
          have := hv e2
          have := pop_le m
          omega)
        omega
theorem pt_mem {s : ST} (w : WFS s) {y : DY} {a b aim tg : Nat} : ∀ n m l, ∀ c ∈ ptF s y a b aim tg n m l, c < sN s := by
  intro n
  induction n with
  | zero => intro m l c hc; cases hc
  | succ n ih =>
    intro m l c hc
    rw [ptF_s] at hc
    split at hc
    · cases hc
    · cases e : fsF (ldB s y a b aim tg m l) 0 12 with
      | none => rw [e] at hc; cases hc
      | some d =>
        rw [e] at hc
        rcases List.mem_cons.mp hc with q | q
        · rw [q]; exact (step_of w e).1
        · exact ih _ _ c q
theorem pt_le {s : ST} {y : DY} {a b aim tg : Nat} : ∀ n m l, (ptF s y a b aim tg n m l).length ≤ n := by
  intro n
  induction n with
  | zero => intro m l; exact Nat.le_refl _
  | succ n ih =>
    intro m l
    rw [ptF_s]
    split
    · exact Nat.zero_le _
    · split
      · exact Nat.zero_le _
      · rw [List.length_cons]
        have := ih (m ||| 2 ^ (by assumption)) (by assumption)
        omega
