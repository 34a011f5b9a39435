/-! the small machine's heap against the real one -/
def adA (B : Nat) (o : Nat → Nat) (x : Nat) : Nat := if x < 1000000 then B + (x - 1) else o x
def tN (B : Nat) (o : Nat → Nat) (x : Nat) : Option Nat := if x = 0 then none else some (adA B o x)
def tV (B : Nat) (o : Nat → Nat) (v : Value) : Value := match v with
  | .ref x => va_rf (tN B o x)
  | v => v
def fdV (B : Nat) (o : Nat → Nat) (h : AH) (x c k : Nat) : Value := match fK c k with
  | 1 => .long (jvA h x k)
  | 2 => va_rf (tN B o (rvA h x k))
  | _ => .int (ivA h x k)
def fdL (B : Nat) (o : Nat → Nat) (h : AH) (x c : Nat) : List Value := (List.range (fN c)).map (fdV B o h x c)
def clE (B : Nat) (o : Nat → Nat) (ca : Nat → ClassId) (h : AH) (x : Nat) : va_E :=
  if kdA h x < 13 then .inr (kdA h x, fdL B o h x (kdA h x))
  else if kdA h x = 21 then .inl (ca 21, lnA h x, .inr (.inl (jvA h x)))
  else if 30 ≤ kdA h x then .inl (ca (kdA h x), lnA h x, .inr (.inr (.inr (.inr (fun j => tN B o (rvA h x j))))))
  else .inl (ca (kdA h x), lnA h x, .inl (ivA h x))
def okK (t : Nat) : Prop := t < 13 ∨ (20 ≤ t ∧ t ≤ 24) ∨ (30 ≤ t ∧ t ≤ 33)
def KOK (h : AH) : Prop := (∀ x, okK (kdA h x) ↔ 1 ≤ x ∧ x ≤ szA h) ∧ (∀ x, kdA h x = 13 ∨ kdA h x = 40 ∨ kdA h x = 42 → 1000000 ≤ x) ∧ szA h < 1000000
def OutEq (h0 h : AH) : Prop := ∀ x, 1000000 ≤ x → kdA h x = kdA h0 x ∧ lnA h x = lnA h0 x ∧ (∀ k, ivA h x k = ivA h0 x k) ∧ ∀ k, rvA h x k = rvA h0 x k
def HR (B : Nat) (o : Nat → Nat) (D : va_G) (ca : Nat → ClassId) (h0 h : AH) (H : Heap) : Prop :=
  H.size = B + szA h ∧ (∀ x, 1 ≤ x → x ≤ szA h → va_at D vwCl (B + (x - 1), clE B o ca h x) H) ∧ KOK h ∧ OutEq h0 h
theorem va_at_keep {D : va_G} {cl : List vw_C} {q : Nat × va_E} {H H' : Heap} (h : va_at D cl q H) (e : H'[q.1]? = H[q.1]?) : va_at D cl q H' := by
  obtain ⟨a, x | x⟩ := q
  · exact e.trans h
  · obtain ⟨r, h1, h2⟩ := h
    exact ⟨r, h1, h2.kept e⟩
theorem tV_i (B : Nat) (o : Nat → Nat) (x : Int32) : tV B o (.int x) = .int x := rfl
theorem tV_l (B : Nat) (o : Nat → Nat) (x : Int64) : tV B o (.long x) = .long x := rfl
theorem tV_0 (B : Nat) (o : Nat → Nat) : tV B o (.ref 0) = .null := rfl
theorem tV_r (B : Nat) (o : Nat → Nat) {x : Nat} (h : x ≠ 0) : tV B o (.ref x) = .ref (adA B o x) := by
  show va_rf (tN B o x) = _
  unfold tN
  rw [if_neg h]
  rfl
theorem tV_cat (B : Nat) (o : Nat → Nat) (v : Value) : (tV B o v).category = v.category := by
  cases v <;> try rfl
  rename_i x
  by_cases h : x = 0
  · subst h; rfl
  · rw [tV_r B o h]; rfl
theorem okK_own {h : AH} (hK : KOK h) {x : Nat} (ht : okK (kdA h x)) : 1 ≤ x ∧ x ≤ szA h ∧ x < 1000000 ∧ x ≠ 0 := by
  obtain ⟨a, b⟩ := (hK.1 x).mp ht
  have := hK.2.2
  exact ⟨a, b, by omega, by omega⟩
theorem adA_own (B : Nat) (o : Nat → Nat) {x : Nat} (h : x < 1000000) : adA B o x = B + (x - 1) := if_pos h
theorem adA_out (B : Nat) (o : Nat → Nat) {x : Nat} (h : 1000000 ≤ x) : adA B o x = o x := if_neg (by omega)
/-- a heap in which one own cell has changed -/
theorem HR_set {B : Nat} {o : Nat → Nat} {D : va_G} {ca : Nat → ClassId} {h0 h h' : AH} {H H' : Heap} (R : HR B o D ca h0 h H) {a : Nat} (ha : 1 ≤ a ∧ a ≤ szA h)
    (hz : szA h' = szA h) (hk : ∀ x, kdA h' x = kdA h x) (hn : ∀ x, lnA h' x = lnA h x) (hi : ∀ x, x ≠ a → ∀ k, ivA h' x k = ivA h x k) (hj : ∀ x, x ≠ a → ∀ k, jvA h' x k = jvA h x k) (hr : ∀ x, x ≠ a → ∀ k, rvA h' x k = rvA h x k)
    (hs : H'.size = H.size) (hq : ∀ q, q ≠ B + (a - 1) → H'[q]? = H[q]?) (hc : va_at D vwCl (B + (a - 1), clE B o ca h' a) H') : HR B o D ca h0 h' H' := by
  obtain ⟨r1, r2, r3, r4⟩ := R
  refine ⟨by rw [hs, r1, hz], fun x h1 h2 => ?_, ⟨fun x => by rw [hk, hz]; exact r3.1 x, fun x => by rw [hk]; exact r3.2.1 x, by rw [hz]; exact r3.2.2⟩, fun x hx => ?_⟩
  · by_cases e : x = a
    · subst e; exact hc
    · have h3 := r2 x h1 (by rw [← hz]; exact h2)
      have e2 : clE B o ca h' x = clE B o ca h x := by
        unfold clE fdL
        rw [hk, hn]
        have e3 : (fdV B o h' x (kdA h x)) = (fdV B o h x (kdA h x)) := by
          funext k
          unfold fdV
          rw [hi x e, hj x e, hr x e]
        have e4 : (jvA h' x) = jvA h x := funext (hj x e)
        have e5 : (ivA h' x) = ivA h x := funext (hi x e)
        have e6 : (fun j => tN B o (rvA h' x j)) = (fun j => tN B o (rvA h x j)) := by funext j; rw [hr x e]
        rw [e3, e4, e5, e6]
      rw [e2]
      exact va_at_keep h3 (hq _ (by show B + (x - 1) ≠ _; omega))
  · have hne : x ≠ a := by have := r3.2.2; omega
    exact ⟨(hk x).trans (r4 x hx).1, (hn x).trans (r4 x hx).2.1, fun k => (hi x hne k).trans ((r4 x hx).2.2.1 k), fun k => (hr x hne k).trans ((r4 x hx).2.2.2 k)⟩
/-- a heap with one more cell -/
theorem HR_newG {B : Nat} {o : Nat → Nat} {D : va_G} {ca : Nat → ClassId} {h0 h h' : AH} {H H' : Heap} (R : HR B o D ca h0 h H) {t : Nat} (ht : okK t) (hsz : szA h + 1 < 1000000) (ez : szA h' = szA h + 1) (ek : ∀ x, kdA h' x = if x = szA h + 1 then t else kdA h x)
    (eo : ∀ x, x ≠ szA h + 1 → lnA h' x = lnA h x ∧ ivA h' x = ivA h x ∧ jvA h' x = jvA h x ∧ rvA h' x = rvA h x)
    (hs : H'.size = H.size + 1) (hq : ∀ q, q < H.size → H'[q]? = H[q]?) (hc : va_at D vwCl (B + szA h, clE B o ca h' (szA h + 1)) H') : HR B o D ca h0 h' H' := by
  obtain ⟨r1, r2, r3, r4⟩ := R
  have old : ∀ x, x ≠ szA h + 1 → kdA h' x = kdA h x := fun x hx => by rw [ek, if_neg hx]
  refine ⟨by rw [hs, r1, ez]; omega, fun x h1 h2 => ?_, ⟨fun x => ?_, fun x hx => ?_, by rw [ez]; exact hsz⟩, fun x hx => ?_⟩
  · rw [ez] at h2
    by_cases e : x = szA h + 1
    · subst e; exact hc
    · have o1 := old x e
      obtain ⟨o2, o3, o4, o5⟩ := eo x e
      have h3 := r2 x h1 (by omega)
      have e2 : clE B o ca h' x = clE B o ca h x := by
        unfold clE fdL
        rw [o1, o2, o3, o4]
        have e3 : (fdV B o h' x (kdA h x)) = (fdV B o h x (kdA h x)) := by
          funext k
          unfold fdV
          rw [o3, o4, o5]
        rw [e3, o5]
      rw [e2]
      exact va_at_keep h3 (hq _ (by show B + (x - 1) < H.size; omega))
  · rw [ek, ez]
    by_cases e : x = szA h + 1
    · rw [if_pos e]
      exact ⟨fun _ => by omega, fun _ => ht⟩
    · rw [if_neg e, r3.1 x]
      omega
  · rw [ek] at hx
    by_cases e : x = szA h + 1
    · rw [if_pos e] at hx
      rcases ht with ht | ht | ht <;> omega
    · rw [if_neg e] at hx
      exact r3.2.1 x hx
  · have hne : x ≠ szA h + 1 := by omega
    obtain ⟨o2, o3, o4, o5⟩ := eo x hne
    exact ⟨(old x hne).trans (r4 x hx).1, o2.trans (r4 x hx).2.1, fun k => by rw [o3]; exact (r4 x hx).2.2.1 k, fun k => by rw [o5]; exact (r4 x hx).2.2.2 k⟩
theorem nw_old (h : AH) (t n x : Nat) (hx : x ≠ szA h + 1) : lnA (nwA h t n) x = lnA h x ∧ ivA (nwA h t n) x = ivA h x ∧ jvA (nwA h t n) x = jvA h x ∧ rvA (nwA h t n) x = rvA h x :=
  ⟨if_neg hx, funext fun k => congrFun (show (if x = szA h + 1 then (fun _ => (0 : Int32)) else h.2.2.1 x) = h.2.2.1 x from if_neg hx) k, funext fun k => congrFun (show (if x = szA h + 1 then (fun _ => (0 : Int64)) else h.2.2.2.1 x) = h.2.2.2.1 x from if_neg hx) k, funext fun k => congrFun (show (if x = szA h + 1 then (fun _ => 0) else h.2.2.2.2.1 x) = h.2.2.2.2.1 x from if_neg hx) k⟩
theorem HR_new {B : Nat} {o : Nat → Nat} {D : va_G} {ca : Nat → ClassId} {h0 h : AH} {H H' : Heap} (R : HR B o D ca h0 h H) {t n : Nat} (ht : okK t) (hsz : szA h + 1 < 1000000)
    (hs : H'.size = H.size + 1) (hq : ∀ q, q < H.size → H'[q]? = H[q]?) (hc : va_at D vwCl (B + szA h, clE B o ca (nwA h t n) (szA h + 1)) H') : HR B o D ca h0 (nwA h t n) H' :=
  HR_newG R ht hsz rfl (fun _ => rfl) (fun x hx => nw_old h t n x hx) hs hq hc
/-- the locals -/
def LRr (B : Nat) (o : Nat → Nat) (ls : Array Slot) (nL : Nat) (L : List Value) : Prop := ls.size = nL ∧ lv_wf ls ∧ L.length = nL ∧ (∀ (i : Nat) (v : Value), L[i]? = some v → v.category = 2 → ∃ x, v = .long x) ∧ ∀ (i : Nat) (v : Value), L[i]? = some v → v ≠ unV → ls[i]? = some (.val (tV B o v))
def lvO (B : Nat) (o : Nat → Nat) (L : List Value) : List (Nat × Value) := (List.range L.length).filterMap (fun i => match L[i]? with
  | some v => if v = unV then none else some (i, tV B o v)
  | none => none)
theorem lvO_mem {B : Nat} {o : Nat → Nat} {L : List Value} {q : Nat × Value} : q ∈ lvO B o L ↔ ∃ v, L[q.1]? = some v ∧ v ≠ unV ∧ q.2 = tV B o v := by
  unfold lvO
  rw [List.mem_filterMap]
  constructor
  · rintro ⟨i, hi, he⟩
    split at he
    · rename_i v hv
      split at he
      · cases he
      · rename_i hne
        cases he
        exact ⟨v, hv, hne, rfl⟩
    · cases he
  · rintro ⟨v, hv, hne, he⟩
    refine ⟨q.1, List.mem_range.mpr (List.getElem?_eq_some_iff.mp hv).1, ?_⟩
    rw [hv]
    simp only [if_neg hne, ← he]
theorem LRr.has {B : Nat} {o : Nat → Nat} {ls : Array Slot} {nL : Nat} {L : List Value} (h : LRr B o ls nL L) : lv_has ls nL (lvO B o L) := by
  refine ⟨h.1, h.2.1, fun q hq => ?_⟩
  obtain ⟨v, hv, hne, he⟩ := lvO_mem.mp hq
  rw [he]
  exact h.2.2.2.2 q.1 v hv hne
theorem setL_get {L : List Value} {i j : Nat} {v w : Value} (hi : i < L.length) (h : (setL L i v)[j]? = some w) (hw : w ≠ unV) : (j = i ∧ w = v) ∨ (j ≠ i ∧ L[j]? = some w ∧ ∀ x, j + 1 = i → w ≠ .long x) := by
  cases i with
  | zero =>
    change (L.set 0 v)[j]? = some w at h
    rw [List.getElem?_set] at h
    by_cases e : 0 = j
    · subst e
      rw [if_pos rfl, if_pos hi] at h
      cases h
      exact Or.inl ⟨rfl, rfl⟩
    · rw [if_neg e] at h
      exact Or.inr ⟨Ne.symm e, h, fun x h2 => by omega⟩
  | succ k =>
    rw [setL_s] at h
    split at h
    · rename_i y hy
      rw [List.getElem?_set] at h
      by_cases e : k + 1 = j
      · subst e
        rw [if_pos rfl, if_pos (by simpa using hi)] at h
        cases h
        exact Or.inl ⟨rfl, rfl⟩
      · rw [if_neg e, List.getElem?_set] at h
        by_cases e2 : k = j
        · rw [if_pos e2] at h
          split at h
          · cases h; exact absurd rfl hw
          · cases h
        · rw [if_neg e2] at h
          exact Or.inr ⟨Ne.symm e, h, fun x h2 => by omega⟩
    · rename_i hno
      rw [List.getElem?_set] at h
      by_cases e : k + 1 = j
      · subst e
        rw [if_pos rfl, if_pos hi] at h
        cases h
        exact Or.inl ⟨rfl, rfl⟩
      · rw [if_neg e] at h
        exact Or.inr ⟨Ne.symm e, h, fun x h2 hx => by
          obtain rfl : j = k := by omega
          rw [hx] at h
          exact hno x h⟩
theorem setL_len (L : List Value) (i : Nat) (v : Value) : (setL L i v).length = L.length := by
  cases i with
  | zero => exact List.length_set
  | succ k => rw [setL_s]; split <;> simp
theorem LRr.one {B : Nat} {o : Nat → Nat} {ls ls' : Array Slot} {nL : Nat} {L : List Value} (h : LRr B o ls nL L) {i : Nat} {v : Value} (hi : i < nL) (hc : v.category = 1)
    (h' : lv_has ls' nL ((i, tV B o v) :: (lvO B o L).filter (fun q => !(q.1 == i) && !(q.1 + 1 == i && q.2.category == 2)))) : LRr B o ls' nL (setL L i v) := by
  have hlt : i < L.length := by rw [h.2.2.1]; exact hi
  refine ⟨h'.1, h'.2.1, by rw [setL_len]; exact h.2.2.1, fun j w hj hw => ?_, fun j w hj hw => ?_⟩
  · rcases setL_get hlt hj (fun e => by rw [e] at hw; cases hw) with ⟨rfl, rfl⟩ | ⟨-, h2, -⟩
    · rw [hc] at hw; cases hw
    · exact h.2.2.2.1 j w h2 hw
  · rcases setL_get hlt hj hw with ⟨rfl, rfl⟩ | ⟨hne, h2, h3⟩
    · exact h'.2.2 _ List.mem_cons_self
    · refine h'.2.2 (j, tV B o w) (List.mem_cons_of_mem _ (List.mem_filter.mpr ⟨lvO_mem.mpr ⟨w, h2, hw, rfl⟩, ?_⟩))
      simp only [Bool.and_eq_true, Bool.not_eq_true', beq_eq_false_iff_ne, ne_eq, Bool.and_eq_false_iff]
      refine ⟨hne, ?_⟩
      by_cases e : j + 1 = i
      · right
        rw [tV_cat]
        intro hcat
        obtain ⟨x, hx⟩ := h.2.2.2.1 j w h2 hcat
        exact h3 x e hx
      · exact Or.inl e
theorem LRr.two {B : Nat} {o : Nat → Nat} {ls ls' : Array Slot} {nL : Nat} {L : List Value} (h : LRr B o ls nL L) {i : Nat} {x : Int64} (hi : i + 1 < nL)
    (h' : lv_has ls' nL ((i, .long x) :: (lvO B o L).filter (fun q => !(q.1 == i) && (!(q.1 == i + 1) && !(q.1 + 1 == i && q.2.category == 2))))) : LRr B o ls' nL (setL2 L i (.long x)) := by
  have hlt : i < L.length := by rw [h.2.2.1]; omega
  have key : ∀ (j : Nat) (w : Value), (setL2 L i (.long x))[j]? = some w → w ≠ unV → j ≠ i + 1 ∧ (setL L i (.long x))[j]? = some w := by
    intro j w hj hw
    unfold setL2 at hj
    rw [List.getElem?_set] at hj
    by_cases e : i + 1 = j
    · rw [if_pos e] at hj
      split at hj
      · cases hj; exact absurd rfl hw
      · cases hj
    · rw [if_neg e] at hj
      exact ⟨Ne.symm e, hj⟩
  refine ⟨h'.1, h'.2.1, by unfold setL2; rw [List.length_set, setL_len]; exact h.2.2.1, fun j w hj hw => ?_, fun j w hj hw => ?_⟩
  · obtain ⟨-, hj2⟩ := key j w hj (fun e => by rw [e] at hw; cases hw)
    rcases setL_get hlt hj2 (fun e => by rw [e] at hw; cases hw) with ⟨rfl, rfl⟩ | ⟨-, h2, -⟩
    · exact ⟨x, rfl⟩
    · exact h.2.2.2.1 j w h2 hw
  · obtain ⟨hj1, hj2⟩ := key j w hj hw
    rcases setL_get hlt hj2 hw with ⟨rfl, rfl⟩ | ⟨hne, h2, h3⟩
    · exact h'.2.2 _ List.mem_cons_self
    · refine h'.2.2 (j, tV B o w) (List.mem_cons_of_mem _ (List.mem_filter.mpr ⟨lvO_mem.mpr ⟨w, h2, hw, rfl⟩, ?_⟩))
      simp only [Bool.and_eq_true, Bool.not_eq_true', beq_eq_false_iff_ne, ne_eq, Bool.and_eq_false_iff]
      refine ⟨hne, hj1, ?_⟩
      by_cases e : j + 1 = i
      · right
        rw [tV_cat]
        intro hcat
        obtain ⟨x, hx⟩ := h.2.2.2.1 j w h2 hcat
        exact h3 x e hx
      · exact Or.inl e
theorem LRr.at {B : Nat} {o : Nat → Nat} {ls : Array Slot} {nL : Nat} {L : List Value} (h : LRr B o ls nL L) {i : Nat} {v : Value} (hv : L[i]? = some v) (hn : v ≠ unV) : ls[i]? = some (.val (tV B o v)) := h.2.2.2.2 i v hv hn
