/-! masks that hold the first one, in their order -/
theorem bit_half (x i : Nat) : (x / 2).testBit i = x.testBit (i + 1) := by
  rw [Nat.testBit_succ]
theorem or_half (x y : Nat) : (x ||| y) / 2 = x / 2 ||| y / 2 := bit_ext (fun i => by rw [bit_half, Nat.testBit_or, Nat.testBit_or, bit_half, bit_half])
theorem sub_half {a b : Nat} (h : subB a b) : subB (a / 2) (b / 2) := fun i hi => by
  rw [bit_half] at hi ⊢
  exact h _ hi
theorem bit0 (x : Nat) : x.testBit 0 = decide (x % 2 = 1) := Nat.testBit_zero x
theorem sub_or {a b : Nat} (h : subB a b) : b ||| a = b := bit_ext (fun k => by
  rw [Nat.testBit_or]
  cases q : a.testBit k
  · simp
  · rw [h k q]; rfl)
theorem sup_next : ∀ k m D, subB D k → subB D m → k < m → (k + 1) ||| D ≤ m := by
  refine lt_ind (fun k ih m D h1 h2 h3 => ?_)
  have e2 := Nat.div_add_mod ((k + 1) ||| D) 2
  have em := Nat.div_add_mod m 2
  have ek := Nat.div_add_mod k 2
  rw [or_half] at e2
  have hm2 : ((k + 1) ||| D) % 2 < 2 := Nat.mod_lt _ (by omega)
  by_cases q : k % 2 = 0
  · have e3 : (k + 1) / 2 = k / 2 := by omega
    rw [e3, sub_or (sub_half h1)] at e2
    omega
  · have e3 : (k + 1) / 2 = k / 2 + 1 := by omega
    rw [e3] at e2
    have := ih (k / 2) (by omega) (m / 2) (D / 2) (sub_half h1) (sub_half h2) (by omega)
    have b0 : ((k + 1) ||| D) % 2 = 1 → m % 2 = 1 := fun z => by
      have t : ((k + 1) ||| D).testBit 0 = true := by rw [bit0, z]; rfl
      rw [Nat.testBit_or, bit0 (k + 1)] at t
      have : decide ((k + 1) % 2 = 1) = false := by simp; omega
      rw [this, Bool.false_or] at t
      have := h2 0 t
      rw [bit0] at this
      simpa using this
    omega
/-! the ranks of last cells -/
def wideB (s : ST) : Bool := usesF s 6 || usesF s 7
def wdt (s : ST) : Nat := if wideB s = true then sN s + 1 else 1
def rnk (s : ST) (l : Nat) : Nat := if wideB s = true then (if l = 12 then sN s else l) else 0
def unr (s : ST) (r : Nat) : Nat := if wideB s = true then (if r = sN s then 12 else r) else 0
theorem wide_iff (s : ST) : wideB s = true ↔ (usesF s 6 = true ∨ usesF s 7 = true) := by
  unfold wideB
  rw [Bool.or_eq_true]
theorem wdt_b {s : ST} (w : WFS s) : 1 ≤ wdt s ∧ wdt s ≤ 13 := by
  have := w.n12
  unfold wdt
  split <;> omega
theorem rnk_lt {s : ST} {l : Nat} (h : l = 12 ∨ l < sN s) : rnk s l < wdt s := by
  unfold rnk wdt
  split
  · split <;> omega
  · omega
theorem unr_ok {s : ST} (w : WFS s) {r : Nat} (h : r < wdt s) : unr s r = 12 ∨ unr s r < sN s := by
  have := w.n1
  unfold wdt at h
  unfold unr
  split
  · rename_i q
    rw [if_pos q] at h
    split <;> omega
  · right; omega
theorem unr_rnk {s : ST} (w : WFS s) (hw : wideB s = true) {l : Nat} (h : l = 12 ∨ l < sN s) : unr s (rnk s l) = l := by
  have := w.n12
  unfold unr rnk
  rw [if_pos hw, if_pos hw]
  by_cases q : l = 12
  · rw [if_pos q, if_pos rfl, q]
  · rw [if_neg q, if_neg (by omega)]
theorem rnk_unr {s : ST} (w : WFS s) {r : Nat} (h : r < wdt s) : rnk s (unr s r) = r := by
  have := w.n12
  unfold wdt at h
  unfold unr rnk
  split
  · rename_i q
    rw [if_pos q] at h
    by_cases z : r = sN s
    · rw [if_pos z, if_pos rfl, z]
    · rw [if_neg z, if_neg (by omega)]
  · rename_i q
    rw [if_neg q] at h
    omega
theorem mvF_last {s : ST} (w : WFS s) (hw : ¬ wideB s = true) (hd hb m l l' : Nat) : mvF s hd hb m l = mvF s hd hb m l' := by
  have : (fun c => mayF s hd hb c m l) = fun c => mayF s hd hb c m l' := by
    funext c
    rw [mayF_N, mayF_N, holdF_congr w (fun _ => rfl) (fun _ => rfl) (fun z => absurd ((wide_iff s).mpr z) hw)]
  unfold mvF
  rw [this]
theorem mvG_last {s : ST} (w : WFS s) (hw : ¬ wideB s = true) (y : DY) (a b m l l' : Nat) : mvG s y a b m l = mvG s y a b m l' := by
  unfold mvG
  rw [mvF_last w hw a (yB y a) m l l', mvF_last w hw b (yB y b) m l l']
theorem mvG_rnk {s : ST} (w : WFS s) (y : DY) (a b m : Nat) {l : Nat} (h : l = 12 ∨ l < sN s) : mvG s y a b m (unr s (rnk s l)) = mvG s y a b m l := by
  by_cases hw : wideB s = true
  · rw [unr_rnk w hw h]
  · exact mvG_last w hw y a b m _ _
theorem WT_last {s : ST} (w : WFS s) (hw : ¬ wideB s = true) (y : DY) (a b aim tg : Nat) {m : Nat} (hm : m < 4096) (l l' : Nat) : WT s y a b aim tg m l = WT s y a b aim tg m l' := by
  rw [WT_eq w hm, WT_eq w (l := l') hm]
  show Vf (mvG s y a b) (yD y) (odF s y) aim tg m l _ = Vf (mvG s y a b) (yD y) (odF s y) aim tg m l' _
  unfold Vf
  rw [mvG_last w hw y a b m l l']
theorem WT_rnk {s : ST} (w : WFS s) (y : DY) (a b aim tg : Nat) {m : Nat} (hm : m < 4096) {l l' : Nat} (h : l = 12 ∨ l < sN s) (h' : l' = 12 ∨ l' < sN s) (e : rnk s l = rnk s l') : WT s y a b aim tg m l = WT s y a b aim tg m l' := by
  by_cases hw : wideB s = true
  · have := congrArg (unr s) e
    rw [unr_rnk w hw h, unr_rnk w hw h'] at this
    rw [this]
  · exact WT_last w hw y a b aim tg hm l l'
theorem mvG_rnk2 {s : ST} (w : WFS s) (y : DY) (a b m : Nat) {l l' : Nat} (h : l = 12 ∨ l < sN s) (h' : l' = 12 ∨ l' < sN s) (e : rnk s l = rnk s l') : mvG s y a b m l = mvG s y a b m l' := by
  rw [← mvG_rnk w y a b m h, e, mvG_rnk w y a b m h']
/-! stands that have come about when masks below k are through -/
def RE (s : ST) (y : DY) (a b k m c : Nat) : Prop := (m = yD y ∧ c = yL y) ∨ (m.testBit c = true ∧ m ^^^ 2 ^ c < k ∧ ∃ l, l < 13 ∧ (mvG s y a b (m ^^^ 2 ^ c) l).testBit c = true ∧ 0 < Wy s y a b tt1 (m ^^^ 2 ^ c) l)
theorem RE_done {s : ST} {y : DY} {a b k m c : Nat} (h : m ≤ k) : RE s y a b k m c ↔ 0 < Wy s y a b tt1 m c := by
  unfold Wy
  rw [CW_pos]
  unfold RE
  constructor
  · rintro (q | ⟨q1, q2, l, q3, q4, q5⟩)
    · exact Or.inl q
    · exact Or.inr ⟨q1, rfl, l, q3, q4, q5⟩
  · rintro (q | ⟨q1, q2, l, q3, q4, q5⟩)
    · exact Or.inl q
    · exact Or.inr ⟨q1, by have := xor_lt q1; omega, l, q3, q4, q5⟩
theorem RE_step {s : ST} {y : DY} {a b k m c : Nat} : RE s y a b (k + 1) m c ↔ (RE s y a b k m c ∨ (m.testBit c = true ∧ m ^^^ 2 ^ c = k ∧ ∃ l, l < 13 ∧ (mvG s y a b k l).testBit c = true ∧ 0 < Wy s y a b tt1 k l)) := by
  unfold RE
  constructor
  · rintro (q | ⟨q1, q2, l, q3, q4, q5⟩)
    · exact Or.inl (Or.inl q)
    · by_cases e : m ^^^ 2 ^ c = k
      · rw [e] at q4 q5
        exact Or.inr ⟨q1, e, l, q3, q4, q5⟩
      · exact Or.inl (Or.inr ⟨q1, by omega, l, q3, q4, q5⟩)
  · rintro ((q | ⟨q1, q2, l, q3, q4, q5⟩) | ⟨q1, e, l, q3, q4, q5⟩)
    · exact Or.inl q
    · exact Or.inr ⟨q1, by omega, l, q3, q4, q5⟩
    · exact Or.inr ⟨q1, by omega, l, q3, by rw [e]; exact q4, by rw [e]; exact q5⟩
/-- where no mask between holds the first one, nothing comes about -/
theorem RE_skip {s : ST} {y : DY} {a b k k' m c : Nat} (hk : k ≤ k') (h : ∀ x, k ≤ x → x < k' → ¬ subB (yD y) x) : RE s y a b k' m c ↔ RE s y a b k m c := by
  unfold RE
  constructor
  · rintro (q | ⟨q1, q2, l, q3, q4, q5⟩)
    · exact Or.inl q
    · refine Or.inr ⟨q1, ?_, l, q3, q4, q5⟩
      by_cases z : m ^^^ 2 ^ c < k
      · exact z
      · exact absurd (CW_sub _ _ q5) (h _ (by omega) q2)
  · rintro (q | ⟨q1, q2, l, q3, q4, q5⟩)
    · exact Or.inl q
    · exact Or.inr ⟨q1, by omega, l, q3, q4, q5⟩
theorem sup_gap {D k : Nat} (h : subB D k) : ∀ x, k + 1 ≤ x → x < (k + 1) ||| D → ¬ subB D x := fun x h1 h2 h3 => by
  have := sup_next k x D h h3 (by omega)
  omega
theorem RE_next {s : ST} {y : DY} {a b k m c : Nat} (h : subB (yD y) k) : RE s y a b ((k + 1) ||| yD y) m c ↔ RE s y a b (k + 1) m c := RE_skip Nat.left_le_or (sup_gap h)
theorem RE_0 {s : ST} {y : DY} {a b m c : Nat} : RE s y a b (yD y) m c ↔ (m = yD y ∧ c = yL y) := by
  unfold RE
  constructor
  · rintro (q | ⟨q1, q2, l, q3, q4, q5⟩)
    · exact q
    · have : Wy s y a b tt1 (m ^^^ 2 ^ c) l = 0 := CW_lo q2
      omega
  · exact Or.inl
theorem RE_l {s : ST} (w : WFS s) {y : DY} (wy : WFY s y) {a b k m c : Nat} (h : RE s y a b k m c) : c = 12 ∨ c < sN s := by
  rcases h with q | ⟨q1, q2, l, q3, q4, q5⟩
  · rw [q.2]; exact wy.2.1
  · right; exact (mvG_N w q4).1
theorem Wy_l {s : ST} (w : WFS s) {y : DY} (wy : WFY s y) {a b m l : Nat} (h : 0 < Wy s y a b tt1 m l) : (l = 12 ∨ l < sN s) ∧ m < 2 ^ sN s ∧ subB (yD y) m := ⟨RE_l w wy ((RE_done (Nat.le_refl m)).mpr h), (CW_cb w wy h).2.1, CW_sub _ _ h⟩
theorem RE_lt {s : ST} (w : WFS s) {y : DY} (wy : WFY s y) {a b k m c : Nat} (h : RE s y a b k m c) : m < 2 ^ sN s ∧ subB (yD y) m := by
  rcases h with q | ⟨q1, q2, l, q3, q4, q5⟩
  · rw [q.1]; exact ⟨wy.1, subB_refl _⟩
  · have hb := mvG_N w q4
    have := Wy_l w wy q5
    have e := xor_or q1
    rw [← e]
    exact ⟨or_lt2 this.2.1 hb.1, subB_or c this.2.2⟩
/-- the bits of ranks that stand for stands with a property -/
def Rk (s : ST) (P : Nat → Prop) (x : Nat) : Prop := ∀ r, x.testBit r = true ↔ ∃ l, P l ∧ rnk s l = r
theorem Rk.congr {s : ST} {P Q : Nat → Prop} {x : Nat} (h : Rk s P x) (e : ∀ l, P l ↔ Q l) : Rk s Q x := fun r => by
  rw [h r]
  constructor
  · rintro ⟨l, h1, h2⟩; exact ⟨l, (e l).mp h1, h2⟩
  · rintro ⟨l, h1, h2⟩; exact ⟨l, (e l).mpr h1, h2⟩
theorem Rk.or {s : ST} {P : Nat → Prop} {x c : Nat} (h : Rk s P x) : Rk s (fun l => P l ∨ l = c) (x ||| 2 ^ rnk s c) := fun r => by
  rw [Nat.testBit_or, Bool.or_eq_true, h r, two_bit, decide_eq_true_eq]
  constructor
  · rintro (⟨l, h1, h2⟩ | e)
    · exact ⟨l, Or.inl h1, h2⟩
    · exact ⟨c, Or.inr rfl, e⟩
  · rintro ⟨l, h1 | h1, h2⟩
    · exact Or.inl ⟨l, h1, h2⟩
    · right; rw [← h1]; exact h2
theorem Rk.zero {s : ST} {P : Nat → Prop} {x : Nat} (h : Rk s P x) : x = 0 ↔ ∀ l, ¬ P l := by
  constructor
  · intro e l hl
    have := (h (rnk s l)).mpr ⟨l, hl, rfl⟩
    rw [e, Nat.zero_testBit] at this
    cases this
  · intro H
    refine bit_ext (fun r => ?_)
    rw [Nat.zero_testBit]
    cases q : x.testBit r
    · rfl
    · obtain ⟨l, h1, _⟩ := (h r).mp q
      exact absurd h1 (H l)
