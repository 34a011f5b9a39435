/-! values at stands: a fixpoint over the cells drawn -/
def fx (V : Nat → Nat → (Nat → Int) → Int) : Nat → Nat → Nat → Int
  | 0, _, _ => 0
  | n + 1, m, l => V m l (fun c => fx V n (m ||| 2 ^ c) c)
def tv (V : Nat → Nat → (Nat → Int) → Int) (m l : Nat) : Int := fx V (4096 - m) m l
def LocV (V : Nat → Nat → (Nat → Int) → Int) : Prop := ∀ m l (f g : Nat → Int), (∀ c, c < 12 → m.testBit c = false → f c = g c) → V m l f = V m l g
theorem or_self_bit (m c : Nat) : (m ||| 2 ^ c).testBit c = true := by
  rw [Nat.testBit_or, two_bit]
  simp
theorem bit_lt {m c : Nat} (h : m.testBit c = false) : m < m ||| 2 ^ c := by
  have h1 : m ≤ m ||| 2 ^ c := Nat.left_le_or
  have h2 : m ≠ m ||| 2 ^ c := fun e => by
    have h3 := or_self_bit m c
    rw [← e, h] at h3
    cases h3
  omega
theorem or_4096 {m c : Nat} (hm : m < 4096) (hc : c < 12) : m ||| 2 ^ c < 4096 := or_lt2 (n := 12) hm hc
theorem tv_ind {P : Nat → Nat → Prop} (step : ∀ m l, m < 4096 → (∀ c, c < 12 → m.testBit c = false → P (m ||| 2 ^ c) c) → P m l) : ∀ m l, m < 4096 → P m l := by
  have key : ∀ n m l, m < 4096 → 4096 - m ≤ n → P m l := by
    intro n
    induction n with
    | zero => intro m l hm hn; omega
    | succ n ih =>
      intro m l hm hn
      refine step m l hm (fun c hc hb => ?_)
      have h1 := bit_lt hb
      exact ih _ _ (or_4096 hm hc) (by omega)
  exact fun m l hm => key _ m l hm (Nat.le_refl _)
theorem fx_tv {V : Nat → Nat → (Nat → Int) → Int} (L : LocV V) : ∀ n m l, m < 4096 → 4096 - m ≤ n → fx V n m l = tv V m l := by
  intro n
  induction n with
  | zero => intro m l hm hn; omega
  | succ n ih =>
    intro m l hm hn
    unfold tv
    obtain ⟨k, hk⟩ : ∃ k, 4096 - m = k + 1 := ⟨4095 - m, by omega⟩
    rw [hk]
    show V m l (fun c => fx V n (m ||| 2 ^ c) c) = V m l (fun c => fx V k (m ||| 2 ^ c) c)
    refine L m l _ _ (fun c hc hb => ?_)
    have h1 := bit_lt hb
    have h2 := or_4096 hm hc
    have e1 := ih (m ||| 2 ^ c) c h2 (by omega)
    by_cases q : k = n
    · rw [q]
    · have : ∀ j, 4096 - (m ||| 2 ^ c) ≤ j → j ≤ n → fx V j (m ||| 2 ^ c) c = tv V (m ||| 2 ^ c) c := by
        intro j h3 h4
        rw [← e1]
        have mono : ∀ i a b, a < 4096 → 4096 - a ≤ i → fx V (i + 1) a b = fx V i a b := by
          intro i
          induction i with
          | zero => intro a b ha hi; omega
          | succ i ihi =>
            intro a b ha hi
            show V a b (fun c => fx V (i + 1) (a ||| 2 ^ c) c) = V a b (fun c => fx V i (a ||| 2 ^ c) c)
            refine L a b _ _ (fun d hd hbd => ?_)
            have g1 := bit_lt hbd
            exact ihi _ _ (or_4096 ha hd) (by omega)
        have up : ∀ t, fx V (j + t) (m ||| 2 ^ c) c = fx V j (m ||| 2 ^ c) c := by
          intro t
          induction t with
          | zero => rfl
          | succ t iht => rw [← iht]; exact mono (j + t) _ _ h2 (by omega)
        have := up (n - j)
        rw [show j + (n - j) = n by omega] at this
        exact this.symm
      rw [e1]
      exact (this k (by omega) (by omega)).symm
theorem tv_eq {V : Nat → Nat → (Nat → Int) → Int} (L : LocV V) {m l : Nat} (hm : m < 4096) : tv V m l = V m l (fun c => tv V (m ||| 2 ^ c) c) := by
  obtain ⟨k, hk⟩ : ∃ k, 4096 - m = k + 1 := ⟨4095 - m, by omega⟩
  unfold tv
  rw [hk]
  show V m l (fun c => fx V k (m ||| 2 ^ c) c) = _
  refine L m l _ _ (fun c hc hb => ?_)
  have h1 := bit_lt hb
  exact fx_tv L k _ _ (or_4096 hm hc) (by omega)
/-! how many cells -/
theorem cnt_upd {p q : Nat → Bool} {c : Nat} (H : ∀ k, k ≠ c → p k = q k) (hp : p c = true) (hq : q c = false) : ∀ n, c < n → cnt p n = cnt q n + 1 := by
  intro n
  induction n with
  | zero => intro h; omega
  | succ n ih =>
    intro h
    rw [cnt_s, cnt_s]
    by_cases e : c = n
    · rw [← e, hp, hq, cnt_congr (p := p) (q := q) (fun k hk => H k (by omega))]
      rfl
    · rw [ih (by omega), H n (fun w => e w.symm)]
      omega
theorem pop_or {m c : Nat} (hc : c < 12) (h : m.testBit c = false) : pop (m ||| 2 ^ c) = pop m + 1 := by
  refine cnt_upd (c := c) (fun k hk => ?_) (or_self_bit m c) h 12 hc
  rw [Nat.testBit_or, two_bit]
  have : ¬ c = k := fun w => hk w.symm
  simp [this]
def subB (a b : Nat) : Prop := ∀ k, a.testBit k = true → b.testBit k = true
theorem subB_iff {a b : Nat} : dif a b = 0 ↔ subB a b := by
  constructor
  · intro h k hk
    have := dif_bit a b k
    rw [h, Nat.zero_testBit, hk] at this
    cases q : b.testBit k
    · rw [q] at this; cases this
    · rfl
  · intro h
    refine bit_ext (fun k => ?_)
    rw [dif_bit, Nat.zero_testBit]
    cases q : a.testBit k
    · rfl
    · rw [h k q]; rfl
theorem subB_refl (a : Nat) : subB a a := fun _ h => h
theorem subB_or {a b : Nat} (c : Nat) (h : subB a b) : subB a (b ||| 2 ^ c) := fun k hk => by rw [Nat.testBit_or, h k hk]; rfl
theorem cnt_split {p q r : Nat → Bool} (H : ∀ k, (p k = (q k || r k)) ∧ (q k = true → r k = false)) : ∀ n, cnt p n = cnt q n + cnt r n
  | 0 => rfl
  | n + 1 => by
    have ih := cnt_split H n
    rw [cnt_s, cnt_s, cnt_s, ih, (H n).1]
    cases hq : q n
    · cases hr : r n
      · simp
      · simp; omega
    · have := (H n).2 hq
      rw [this]
      simp
      omega
theorem pop_xor {D m : Nat} (h : subB D m) : pop (m ^^^ D) = pop m - pop D ∧ pop D ≤ pop m := by
  have e : pop m = pop (m ^^^ D) + pop D := by
    refine cnt_split (fun k => ?_) 12
    rw [Nat.testBit_xor]
    cases q : D.testBit k
    · simp
    · rw [h k q]; simp
  omega
theorem pop_dif {D m : Nat} (h : subB D m) : pop (dif m D) = pop m - pop D := by
  have e : dif m D = m ^^^ D := by
    refine bit_ext (fun k => ?_)
    rw [dif_bit, Nat.testBit_xor]
    cases q : D.testBit k
    · simp
    · rw [h k q]; rfl
  rw [e]
  exact (pop_xor h).1
/-! folds over cells -/
def mxF (ok : Nat → Bool) (f : Nat → Int) : Nat → Int
  | 0 => 0
  | k + 1 => if ok k = true then (if mxF ok f k < 1 + f k then 1 + f k else mxF ok f k) else mxF ok f k
def mnF (ok : Nat → Bool) (w f : Nat → Int) : Nat → Int
  | 0 => 1048576
  | k + 1 => if ok k = true then (if w k + f k < mnF ok w f k then w k + f k else mnF ok w f k) else mnF ok w f k
def lsF (ok : Nat → Bool) (f : Nat → Int) : Nat → Int
  | 0 => -1048576
  | k + 1 => if ok k = true ∧ f k < 0 then (if lsF ok f k < f k then f k else lsF ok f k) else lsF ok f k
def wnF (ok : Nat → Bool) (f : Nat → Int) : Nat → Int
  | 0 => 0
  | k + 1 => if ok k = true ∧ 0 ≤ f k then (if wnF ok f k < f k then f k else wnF ok f k) else wnF ok f k
def plF (ok : Nat → Bool) (f : Nat → Int) : Int := if lsF ok f 12 ≤ -1048576 then -(wnF ok f 12) - 1 else 1 - lsF ok f 12
theorem mxF_s (ok : Nat → Bool) (f : Nat → Int) (k : Nat) : mxF ok f (k + 1) = if ok k = true then (if mxF ok f k < 1 + f k then 1 + f k else mxF ok f k) else mxF ok f k := rfl
theorem mnF_s (ok : Nat → Bool) (w f : Nat → Int) (k : Nat) : mnF ok w f (k + 1) = if ok k = true then (if w k + f k < mnF ok w f k then w k + f k else mnF ok w f k) else mnF ok w f k := rfl
theorem lsF_s (ok : Nat → Bool) (f : Nat → Int) (k : Nat) : lsF ok f (k + 1) = if ok k = true ∧ f k < 0 then (if lsF ok f k < f k then f k else lsF ok f k) else lsF ok f k := rfl
theorem wnF_s (ok : Nat → Bool) (f : Nat → Int) (k : Nat) : wnF ok f (k + 1) = if ok k = true ∧ 0 ≤ f k then (if wnF ok f k < f k then f k else wnF ok f k) else wnF ok f k := rfl
theorem mxF_congr {ok ok' : Nat → Bool} {f g : Nat → Int} (ho : ∀ k, ok k = ok' k) (H : ∀ k, ok k = true → f k = g k) : ∀ n, mxF ok f n = mxF ok' g n
  | 0 => rfl
  | n + 1 => by
    rw [mxF_s, mxF_s, mxF_congr ho H n, ← ho n]
    by_cases q : ok n = true
    · rw [H n q]
    · rw [if_neg q, if_neg q]
theorem mnF_congr {ok : Nat → Bool} {w f g : Nat → Int} (H : ∀ k, ok k = true → f k = g k) : ∀ n, mnF ok w f n = mnF ok w g n
  | 0 => rfl
  | n + 1 => by
    rw [mnF_s, mnF_s, mnF_congr H n]
    by_cases q : ok n = true
    · rw [H n q]
    · rw [if_neg q, if_neg q]
theorem lsF_congr {ok : Nat → Bool} {f g : Nat → Int} (H : ∀ k, ok k = true → f k = g k) : ∀ n, lsF ok f n = lsF ok g n
  | 0 => rfl
  | n + 1 => by
    rw [lsF_s, lsF_s, lsF_congr H n]
    by_cases q : ok n = true
    · rw [H n q]
    · rw [if_neg (fun w => q w.1), if_neg (fun w => q w.1)]
theorem wnF_congr {ok : Nat → Bool} {f g : Nat → Int} (H : ∀ k, ok k = true → f k = g k) : ∀ n, wnF ok f n = wnF ok g n
  | 0 => rfl
  | n + 1 => by
    rw [wnF_s, wnF_s, wnF_congr H n]
    by_cases q : ok n = true
    · rw [H n q]
    · rw [if_neg (fun w => q w.1), if_neg (fun w => q w.1)]
/-- beyond the last bit nothing changes -/
theorem fold_up {α : Type} {F : Nat → α} {ok : Nat → Bool} (H : ∀ k, ok k = false → F (k + 1) = F k) {n : Nat} (h : ∀ k, n ≤ k → ok k = false) : ∀ t, F (n + t) = F n
  | 0 => rfl
  | t + 1 => by
    have := fold_up H h t
    rw [← this]
    exact H (n + t) (h _ (by omega))
theorem mxF_n {ok : Nat → Bool} {f : Nat → Int} {n : Nat} (hn : n ≤ 12) (h : ∀ k, n ≤ k → ok k = false) : mxF ok f n = mxF ok f 12 := by
  have := fold_up (F := mxF ok f) (fun k hk => by rw [mxF_s, hk]; rfl) h (12 - n)
  rw [show n + (12 - n) = 12 by omega] at this
  exact this.symm
theorem mnF_n {ok : Nat → Bool} {w f : Nat → Int} {n : Nat} (hn : n ≤ 12) (h : ∀ k, n ≤ k → ok k = false) : mnF ok w f n = mnF ok w f 12 := by
  have := fold_up (F := mnF ok w f) (fun k hk => by rw [mnF_s, hk]; rfl) h (12 - n)
  rw [show n + (12 - n) = 12 by omega] at this
  exact this.symm
theorem lsF_n {ok : Nat → Bool} {f : Nat → Int} {n : Nat} (hn : n ≤ 12) (h : ∀ k, n ≤ k → ok k = false) : lsF ok f n = lsF ok f 12 := by
  have := fold_up (F := lsF ok f) (fun k hk => by rw [lsF_s, hk]; rfl) h (12 - n)
  rw [show n + (12 - n) = 12 by omega] at this
  exact this.symm
theorem wnF_n {ok : Nat → Bool} {f : Nat → Int} {n : Nat} (hn : n ≤ 12) (h : ∀ k, n ≤ k → ok k = false) : wnF ok f n = wnF ok f 12 := by
  have := fold_up (F := wnF ok f) (fun k hk => by rw [wnF_s, hk]; rfl) h (12 - n)
  rw [show n + (12 - n) = 12 by omega] at this
  exact this.symm
/-! bounds of folds -/
theorem mxF_b {ok : Nat → Bool} {f : Nat → Int} {B : Int} (hB : 0 ≤ B) (H : ∀ k, ok k = true → 0 ≤ f k ∧ 1 + f k ≤ B) : ∀ n, 0 ≤ mxF ok f n ∧ mxF ok f n ≤ B
  | 0 => ⟨Int.le_refl _, hB⟩
  | n + 1 => by
    have ih := mxF_b hB H n
    rw [mxF_s]
    by_cases q : ok n = true
    · have := H n q
      rw [if_pos q]
      split <;> omega
    · rw [if_neg q]; exact ih
theorem mnF_le {ok : Nat → Bool} {w f : Nat → Int} {c : Nat} (q : ok c = true) : ∀ n, c < n → mnF ok w f n ≤ w c + f c
  | 0, h => by omega
  | n + 1, h => by
    rw [mnF_s]
    by_cases e : c = n
    · subst e
      rw [if_pos q]
      split <;> omega
    · have ih := mnF_le (w := w) (f := f) q n (by omega)
      by_cases q2 : ok n = true
      · rw [if_pos q2]; split <;> omega
      · rw [if_neg q2]; exact ih
theorem mnF_at {ok : Nat → Bool} {w f : Nat → Int} : ∀ n, mnF ok w f n = 1048576 ∨ ∃ c, c < n ∧ ok c = true ∧ mnF ok w f n = w c + f c ∧ mnF ok w f n < 1048576
  | 0 => Or.inl rfl
  | n + 1 => by
    rw [mnF_s]
    rcases mnF_at (ok := ok) (w := w) (f := f) n with h | ⟨c, h1, h2, h3, h4⟩
    · by_cases q : ok n = true
      · rw [if_pos q]
        by_cases q2 : w n + f n < mnF ok w f n
        · rw [if_pos q2]; exact Or.inr ⟨n, by omega, q, rfl, by omega⟩
        · rw [if_neg q2]; exact Or.inl h
      · rw [if_neg q]; exact Or.inl h
    · by_cases q : ok n = true
      · rw [if_pos q]
        by_cases q2 : w n + f n < mnF ok w f n
        · rw [if_pos q2]; exact Or.inr ⟨n, by omega, q, rfl, by omega⟩
        · rw [if_neg q2]; exact Or.inr ⟨c, by omega, h2, h3, h4⟩
      · rw [if_neg q]; exact Or.inr ⟨c, by omega, h2, h3, h4⟩
theorem lsF_at {ok : Nat → Bool} {f : Nat → Int} : ∀ n, lsF ok f n = -1048576 ∨ ∃ c, c < n ∧ ok c = true ∧ f c < 0 ∧ lsF ok f n = f c ∧ -1048576 < lsF ok f n
  | 0 => Or.inl rfl
  | n + 1 => by
    rw [lsF_s]
    by_cases q : ok n = true ∧ f n < 0
    · rw [if_pos q]
      by_cases q2 : lsF ok f n < f n
      · rw [if_pos q2]
        refine Or.inr ⟨n, by omega, q.1, q.2, rfl, ?_⟩
        rcases lsF_at (ok := ok) (f := f) n with h | ⟨c, h1, h2, h3, h4, h5⟩ <;> omega
      · rw [if_neg q2]
        rcases lsF_at (ok := ok) (f := f) n with h | ⟨c, h1, h2, h3, h4⟩
        · exact Or.inl h
        · exact Or.inr ⟨c, by omega, h2, h3, h4⟩
    · rw [if_neg q]
      rcases lsF_at (ok := ok) (f := f) n with h | ⟨c, h1, h2, h3, h4⟩
      · exact Or.inl h
      · exact Or.inr ⟨c, by omega, h2, h3, h4⟩
theorem lsF_ge {ok : Nat → Bool} {f : Nat → Int} {c : Nat} (q : ok c = true) (q2 : f c < 0) : ∀ n, c < n → f c ≤ lsF ok f n
  | 0, h => by omega
  | n + 1, h => by
    rw [lsF_s]
    by_cases e : c = n
    · subst e
      rw [if_pos ⟨q, q2⟩]
      split <;> omega
    · have ih := lsF_ge q q2 n (by omega)
      split
      · split <;> omega
      · exact ih
theorem wnF_b {ok : Nat → Bool} {f : Nat → Int} {B : Int} (hB : 0 ≤ B) (H : ∀ k, ok k = true → 0 ≤ f k → f k ≤ B) : ∀ n, 0 ≤ wnF ok f n ∧ wnF ok f n ≤ B
  | 0 => ⟨Int.le_refl _, hB⟩
  | n + 1 => by
    have ih := wnF_b hB H n
    rw [wnF_s]
    by_cases q : ok n = true ∧ 0 ≤ f n
    · have := H n q.1 q.2
      rw [if_pos q]
      split <;> omega
    · rw [if_neg q]; exact ih
/-! what a stand is worth, for an aim and a target -/
def Vf (mv : Nat → Nat → Nat) (D : Nat) (od : Nat → Int) (aim tg m l : Nat) (f : Nat → Int) : Int :=
  if aim = 0 then mxF (fun c => (mv m l).testBit c && c != tg) f 12
  else if aim = 1 then (if mv m l = 0 then 0 else mnF (mv m l).testBit (fun _ => 1) f 12)
  else if aim = 2 then (if (mv m l).testBit tg = true then 1 else mnF (mv m l).testBit (fun _ => 1) f 12)
  else if aim = 3 then (if pop m - pop D = tg then 0 else mnF (mv m l).testBit od f 12)
  else (if mv m l = 0 then 2 * (tg : Int) - 1 else plF (mv m l).testBit f)
def OKm (mv : Nat → Nat → Nat) : Prop := ∀ m l c, (mv m l).testBit c = true → c < 12 ∧ m.testBit c = false
theorem Vf_loc {mv : Nat → Nat → Nat} (O : OKm mv) (D : Nat) (od : Nat → Int) (aim tg : Nat) : LocV (Vf mv D od aim tg) := by
  intro m l f g H
  have h1 : ∀ c, (mv m l).testBit c = true → f c = g c := fun c hc => H c (O m l c hc).1 (O m l c hc).2
  unfold Vf plF
  rw [mnF_congr h1 12, mnF_congr h1 12, lsF_congr h1 12, wnF_congr h1 12, mxF_congr (ok := fun c => (mv m l).testBit c && c != tg) (fun _ => rfl) (fun c hc => h1 c (by simp only [Bool.and_eq_true] at hc; exact hc.1)) 12]
def TV (mv : Nat → Nat → Nat) (D : Nat) (od : Nat → Int) (aim tg m l : Nat) : Int := tv (Vf mv D od aim tg) m l
theorem TV_eq {mv : Nat → Nat → Nat} (O : OKm mv) {D : Nat} {od : Nat → Int} {aim tg m l : Nat} (hm : m < 4096) : TV mv D od aim tg m l = Vf mv D od aim tg m l (fun c => TV mv D od aim tg (m ||| 2 ^ c) c) := tv_eq (Vf_loc O D od aim tg) hm
/-- a good worth: never, or within bounds -/
def Gd (m : Nat) (v : Int) : Prop := v = 1048576 ∨ (0 ≤ v ∧ v ≤ 999 * (12 - (pop m : Int)))
theorem Gd.b {m : Nat} {v : Int} (g : Gd m v) : 0 ≤ v ∧ v ≤ 1048576 := by
  unfold Gd at g
  omega
theorem bit_ex {n : Nat} (h : n ≠ 0) : ∃ c, n.testBit c = true := Nat.exists_testBit_of_ne_zero h
theorem TV_01 {mv : Nat → Nat → Nat} (O : OKm mv) {D : Nat} {od : Nat → Int} {aim tg : Nat} (ha : aim = 0 ∨ aim = 1) : ∀ m l, m < 4096 → 0 ≤ TV mv D od aim tg m l ∧ TV mv D od aim tg m l ≤ 12 - (pop m : Int) := by
  refine tv_ind (fun m l hm ih => ?_)
  have pl := pop_le m
  have G : ∀ c, (mv m l).testBit c = true → 0 ≤ TV mv D od aim tg (m ||| 2 ^ c) c ∧ 1 + TV mv D od aim tg (m ||| 2 ^ c) c ≤ 12 - (pop m : Int) := fun c hc => by
    have h1 := ih c (O m l c hc).1 (O m l c hc).2
    have h2 := pop_or (O m l c hc).1 (O m l c hc).2
    omega
  rw [TV_eq O hm]
  generalize hf : (fun c => TV mv D od aim tg (m ||| 2 ^ c) c) = f
  have G' : ∀ c, (mv m l).testBit c = true → 0 ≤ f c ∧ 1 + f c ≤ 12 - (pop m : Int) := fun c hc => by rw [← hf]; exact G c hc
  rcases ha with rfl | rfl
  · show 0 ≤ mxF (fun c => (mv m l).testBit c && c != tg) f 12 ∧ mxF (fun c => (mv m l).testBit c && c != tg) f 12 ≤ _
    refine mxF_b (by omega) (fun c hc => ?_) 12
    simp only [Bool.and_eq_true] at hc
    exact G' c hc.1
  · show 0 ≤ (if mv m l = 0 then 0 else mnF (mv m l).testBit (fun _ => 1) f 12) ∧ (if mv m l = 0 then 0 else mnF (mv m l).testBit (fun _ => 1) f 12) ≤ _
    split
    · omega
    · rename_i q
      obtain ⟨c, hc⟩ := bit_ex q
      have h1 := mnF_le (w := fun _ => 1) (f := f) hc 12 (O m l c hc).1
      have h2 := G' c hc
      rcases mnF_at (ok := (mv m l).testBit) (w := fun _ => 1) (f := f) 12 with h | ⟨b, g1, g2, g3, g4⟩
      · omega
      · have h3 := G' b g2
        omega
theorem TV_gd {mv : Nat → Nat → Nat} (O : OKm mv) {D : Nat} {od : Nat → Int} (ho : ∀ c, 0 ≤ od c ∧ od c ≤ 999) {aim tg : Nat} (ha : aim < 4) : ∀ m l, m < 4096 → Gd m (TV mv D od aim tg m l) := by
  by_cases h01 : aim = 0 ∨ aim = 1
  · intro m l hm
    have := TV_01 O (D := D) (od := od) (tg := tg) h01 m l hm
    have := pop_le m
    right
    omega
  · refine tv_ind (fun m l hm ih => ?_)
    have pl := pop_le m
    have pc : ∀ c, (mv m l).testBit c = true → pop (m ||| 2 ^ c) = pop m + 1 ∧ pop m + 1 ≤ 12 := fun c hc => by
      have := pop_or (O m l c hc).1 (O m l c hc).2
      have := pop_le (m ||| 2 ^ c)
      omega
    rw [TV_eq O hm]
    have G : ∀ c, (mv m l).testBit c = true → Gd (m ||| 2 ^ c) (TV mv D od aim tg (m ||| 2 ^ c) c) := fun c hc => ih c (O m l c hc).1 (O m l c hc).2
    generalize hf : (fun c => TV mv D od aim tg (m ||| 2 ^ c) c) = f
    have G' : ∀ c, (mv m l).testBit c = true → Gd (m ||| 2 ^ c) (f c) := fun c hc => by rw [← hf]; exact G c hc
    have mn : ∀ w : Nat → Int, (∀ c, 0 ≤ w c ∧ w c ≤ 999) → Gd m (mnF (mv m l).testBit w f 12) := by
      intro w hw
      rcases mnF_at (ok := (mv m l).testBit) (w := w) (f := f) 12 with h | ⟨c, h1, h2, h3, h4⟩
      · exact Or.inl h
      · have g := G' c h2
        have p := pc c h2
        have := hw c
        unfold Gd at g ⊢
        right
        omega
    have e : aim = 2 ∨ aim = 3 := by omega
    rcases e with rfl | rfl
    · show Gd m (if (mv m l).testBit tg = true then 1 else mnF (mv m l).testBit (fun _ => 1) f 12)
      split
      · rename_i q
        have := pc tg q
        right; omega
      · exact mn _ (fun _ => by omega)
    · show Gd m (if pop m - pop D = tg then 0 else mnF (mv m l).testBit od f 12)
      split
      · right; omega
      · exact mn _ ho
theorem TV_2 {mv : Nat → Nat → Nat} (O : OKm mv) {D : Nat} {od : Nat → Int} {tg : Nat} : ∀ m l, m < 4096 → 1 ≤ TV mv D od 2 tg m l := by
  refine tv_ind (fun m l hm ih => ?_)
  rw [TV_eq O hm]
  show 1 ≤ (if (mv m l).testBit tg = true then 1 else mnF (mv m l).testBit (fun _ => 1) (fun c => TV mv D od 2 tg (m ||| 2 ^ c) c) 12)
  split
  · omega
  · rcases mnF_at (ok := (mv m l).testBit) (w := fun _ => 1) (f := fun c => TV mv D od 2 tg (m ||| 2 ^ c) c) 12 with h | ⟨c, h1, h2, h3, h4⟩
    · omega
    · have := ih c h1 (O m l c h2).2
      omega
theorem TV_4 {mv : Nat → Nat → Nat} (O : OKm mv) {D : Nat} {od : Nat → Int} {tg : Nat} (ht : tg ≤ 1) : ∀ m l, m < 4096 → TV mv D od 4 tg m l ≠ 0 ∧ TV mv D od 4 tg m l ≤ 13 - (pop m : Int) ∧ -(13 - (pop m : Int)) ≤ TV mv D od 4 tg m l := by
  refine tv_ind (fun m l hm ih => ?_)
  have pl := pop_le m
  rw [TV_eq O hm]
  have pc : ∀ c, (mv m l).testBit c = true → pop (m ||| 2 ^ c) = pop m + 1 ∧ pop m + 1 ≤ 12 := fun c hc => by
    have := pop_or (O m l c hc).1 (O m l c hc).2
    have := pop_le (m ||| 2 ^ c)
    omega
  have G : ∀ c, (mv m l).testBit c = true → TV mv D od 4 tg (m ||| 2 ^ c) c ≠ 0 ∧ TV mv D od 4 tg (m ||| 2 ^ c) c ≤ 12 - (pop m : Int) ∧ -(12 - (pop m : Int)) ≤ TV mv D od 4 tg (m ||| 2 ^ c) c := fun c hc => by
    have h1 := ih c (O m l c hc).1 (O m l c hc).2
    have h2 := pc c hc
    omega
  generalize hf : (fun c => TV mv D od 4 tg (m ||| 2 ^ c) c) = f
  have G' : ∀ c, (mv m l).testBit c = true → f c ≠ 0 ∧ f c ≤ 12 - (pop m : Int) ∧ -(12 - (pop m : Int)) ≤ f c := fun c hc => by rw [← hf]; exact G c hc
  show (if mv m l = 0 then 2 * (tg : Int) - 1 else plF (mv m l).testBit f) ≠ 0 ∧ (if mv m l = 0 then 2 * (tg : Int) - 1 else plF (mv m l).testBit f) ≤ _ ∧ _ ≤ (if mv m l = 0 then 2 * (tg : Int) - 1 else plF (mv m l).testBit f)
  split
  · omega
  · rename_i q
    obtain ⟨c, hc⟩ := bit_ex q
    have h0 := pc c hc
    have w := wnF_b (ok := (mv m l).testBit) (f := f) (B := 12 - (pop m : Int)) (by omega) (fun k hk _ => (G' k hk).2.1) 12
    unfold plF
    rcases lsF_at (ok := (mv m l).testBit) (f := f) 12 with h | ⟨b, h1, h2, h3, h4, h5⟩
    · rw [if_pos (by omega)]; omega
    · have := G' b h2
      rw [if_neg (by omega)]; omega
