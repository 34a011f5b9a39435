theorem body_fg {C : Nat → List Value → AH → Option MRes} {u : Nat} : ∀ (n pc : Nat) (L L' S : List Value) (h : AH) (r : MRes), Fg L L' → body C u n (pc, L', S, h) = some r → body C u n (pc, L, S, h) = some r := by
  intro n
  induction n with
  | zero => intro pc L L' S h r _ hh; cases hh
  | succ n ih =>
    intro pc L L' S h r hF hh
    rw [body_s] at hh ⊢
    cases hl : lkp (codeM u) pc with
    | none => rw [hl] at hh; cases hh
    | some ik =>
      obtain ⟨i, k⟩ := ik
      simp only [hl] at hh ⊢
      cases hm : mstep (owM u) (rtM u) i pc k L' S h with
      | none => rw [hm] at hh; cases hh
      | some ga =>
        obtain ⟨g, a'⟩ := ga
        obtain ⟨a, hm2, Z, Z', hZ, ha, ha'⟩ := mstep_fg hF hm
        simp only [hm] at hh
        simp only [hm2]
        cases hg : allG g with
        | false => rw [hg] at hh; cases hh
        | true =>
          simp only [hg] at hh ⊢
          rcases a with ⟨pc', L', S', h'⟩ | ⟨b, t, pc', L', S', h'⟩ | ⟨x, ps, e, L', S', h'⟩ | ⟨w, as, pc', L', S', h'⟩ | r'
          · cases ha; subst ha'
            exact ih _ _ _ _ _ _ hZ hh
          · cases ha; subst ha'
            exact ih _ _ _ _ _ _ hZ hh
          · cases ha; subst ha'
            exact ih _ _ _ _ _ _ hZ hh
          · cases ha; subst ha'
            dsimp only [plug] at hh ⊢
            cases hc : C w as h' with
            | none => rw [hc] at hh; cases hh
            | some vh =>
              obtain ⟨v, h2⟩ := vh
              simp only [hc] at hh ⊢
              exact ih _ _ _ _ _ _ hZ hh
          · subst ha'
            exact hh
theorem safe_fg {d u pc : Nat} {L L' S : List Value} {h : AH} {Q : Option Value → AH → Prop} (hF : Fg L L') (H : Safe d u (pc, L', S, h) Q) : Safe d u (pc, L, S, h) Q := by
  obtain ⟨N, n, v, h', hb, hq⟩ := H
  exact ⟨N, n, v, h', body_fg _ _ _ _ _ _ _ hF hb, hq⟩
theorem fg_refl (L : List Value) : Fg L L := ⟨rfl, fun _ _ h _ => h⟩
theorem fg_un {L L' : List Value} (hF : Fg L L') (i : Nat) : Fg L (L'.set i unV) := by
  refine ⟨by simp [hF.1], fun j w hj hw => ?_⟩
  rw [List.getElem?_set] at hj
  by_cases e : i = j
  · subst e
    rw [if_pos rfl] at hj
    split at hj
    · cases hj; exact absurd rfl hw
    · cases hj
  · rw [if_neg e] at hj
    exact hF.2 j w hj hw
def clr (L : List Value) : List Nat → List Value
  | [] => L
  | i :: r => (clr L r).set i unV
theorem fg_clr (L : List Value) : ∀ ds : List Nat, Fg L (clr L ds)
  | [] => fg_refl L
  | i :: r => fg_un (fg_clr L r) i
/-- at a place of the list the formula stops, and forgets the locals that the list names there -/
def stp (d u : Nat) (st : List (Nat × List Nat)) (Q : Option Value → AH → Prop) (G : MN → Prop) (s : MN) : Prop := match lkp st s.1 with
  | some ds => Safe d u (s.1, clr s.2.1 ds, s.2.2.1, s.2.2.2) Q
  | none => G s
/-- the formula of the code from a place on -/
def go (d u : Nat) (st : List (Nat × List Nat)) (Q : Option Value → AH → Prop) : Nat → MN → Prop
  | 0, s => Safe d u s Q
  | n + 1, (pc, L, S, h) => match lkp (codeM u) pc with
    | none => False
    | some (i, k) => match mstep (owM u) (rtM u) i pc k L S h with
      | none => False
      | some (g, a) => gal g (match a with
        | .inl s => stp d u st Q (go d u st Q n) s
        | .inr (.inl (b, t, pc', L', S', h')) => if b = true then stp d u st Q (go d u st Q n) (t, L', S', h') else stp d u st Q (go d u st Q n) (pc', L', S', h')
        | .inr (.inr (.inl (x, ps, e, L', S', h'))) => swG x ps e (fun t => stp d u st Q (go d u st Q n) (t, L', S', h'))
        | .inr (.inr (.inr (.inl (w, as, pc', L', S', h')))) => clG d w as h' (fun v k => stp d u st Q (go d u st Q n) (pc', L', v.toList ++ S', k))
        | .inr (.inr (.inr (.inr (v, h')))) => Q v h')
theorem go_s (d u : Nat) (st : List (Nat × List Nat)) (Q : Option Value → AH → Prop) (n pc : Nat) (L S : List Value) (h : AH) : go d u st Q (n + 1) (pc, L, S, h) = (match lkp (codeM u) pc with
    | none => False
    | some (i, k) => match mstep (owM u) (rtM u) i pc k L S h with
      | none => False
      | some (g, a) => gal g (match a with
        | .inl s => stp d u st Q (go d u st Q n) s
        | .inr (.inl (b, t, pc', L', S', h')) => if b = true then stp d u st Q (go d u st Q n) (t, L', S', h') else stp d u st Q (go d u st Q n) (pc', L', S', h')
        | .inr (.inr (.inl (x, ps, e, L', S', h'))) => swG x ps e (fun t => stp d u st Q (go d u st Q n) (t, L', S', h'))
        | .inr (.inr (.inr (.inl (w, as, pc', L', S', h')))) => clG d w as h' (fun v k => stp d u st Q (go d u st Q n) (pc', L', v.toList ++ S', k))
        | .inr (.inr (.inr (.inr (v, h')))) => Q v h')) := rfl
theorem go_safe {d u : Nat} (st : List (Nat × List Nat)) {Q : Option Value → AH → Prop} : ∀ (n : Nat) {s : MN}, go d u st Q n s → Safe d u s Q := by
  intro n
  induction n with
  | zero => intro s h; exact h
  | succ n ih =>
    intro s h
    obtain ⟨pc, L, S, hp⟩ := s
    have one : ∀ s' : MN, stp d u st Q (go d u st Q n) s' → Safe d u s' Q := by
      intro s' h
      unfold stp at h
      split at h
      · obtain ⟨p', L', S', h'⟩ := s'
        exact safe_fg (fg_clr _ _) h
      · exact ih h
    rw [go_s] at h
    cases hl : lkp (codeM u) pc with
    | none => rw [hl] at h; exact h.elim
    | some ik =>
      obtain ⟨i, k⟩ := ik
      simp only [hl] at h
      cases hm : mstep (owM u) (rtM u) i pc k L S hp with
      | none => rw [hm] at h; exact h.elim
      | some ga =>
        obtain ⟨g, a⟩ := ga
        simp only [hm] at h
        rw [gal_iff] at h
        refine (safe_step hl hm).mpr ⟨h.1, ?_⟩
        replace h := h.2
        rcases a with s1 | ⟨b, t, pc', L', S', h'⟩ | ⟨x, ps, e, L', S', h'⟩ | ⟨w, as, pc', L', S', h'⟩ | r'
        · exact one s1 h
        · show Safe d u (bif b then t else pc', L', S', h') Q
          cases b with
          | true => exact one (t, L', S', h') (by simpa using h)
          | false => exact one (pc', L', S', h') (by simpa using h)
        · exact one (swT x ps e, L', S', h') ((swG_iff x _ e ps).mp h)
        · obtain ⟨v, k2, hr, hk⟩ := clG_iff.mp h
          exact ⟨v, k2, hr, one (pc', L', v.toList ++ S', k2) hk⟩
        · exact h
