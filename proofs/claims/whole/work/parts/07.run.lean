/-! runs of the small machine, and the formula that a stretch of code comes to -/
abbrev MRes : Type := Option Value × AH
def allG : List Bool → Bool
  | [] => true
  | b :: r => b && allG r
def body (C : Nat → List Value → AH → Option MRes) (u : Nat) : Nat → MN → Option MRes
  | 0, _ => none
  | n + 1, (pc, L, S, h) => match lkp (codeM u) pc with
    | none => none
    | some (i, k) => match mstep (owM u) (rtM u) i pc k L S h with
      | none => none
      | some (g, a) => match allG g with
        | false => none
        | true => match a with
          | .inl s => body C u n s
          | .inr (.inl (b, t, pc', L', S', h')) => body C u n (bif b then t else pc', L', S', h')
          | .inr (.inr (.inl (x, ps, d, L', S', h'))) => body C u n (swT x ps d, L', S', h')
          | .inr (.inr (.inr (.inl (w, as, pc', L', S', h')))) => match C w as h' with
            | none => none
            | some (v, h'') => body C u n (pc', L', v.toList ++ S', h'')
          | .inr (.inr (.inr (.inr r))) => some r
def entL (u : Nat) (as : List Value) : List Value := spr as ++ List.replicate (mxM u - (spr as).length) unV
def mcall : Nat → Nat → Nat → List Value → AH → Option MRes
  | 0, _, _, _, _ => none
  | d + 1, N, u, as, h => body (mcall d N) u N (0, entL u as, [], h)
theorem body_s (C : Nat → List Value → AH → Option MRes) (u n pc : Nat) (L S : List Value) (h : AH) : body C u (n + 1) (pc, L, S, h) = (match lkp (codeM u) pc with
    | none => none
    | some (i, k) => match mstep (owM u) (rtM u) i pc k L S h with
      | none => none
      | some (g, a) => match allG g with
        | false => none
        | true => match a with
          | .inl s => body C u n s
          | .inr (.inl (b, t, pc', L', S', h')) => body C u n (bif b then t else pc', L', S', h')
          | .inr (.inr (.inl (x, ps, d, L', S', h'))) => body C u n (swT x ps d, L', S', h')
          | .inr (.inr (.inr (.inl (w, as, pc', L', S', h')))) => match C w as h' with
            | none => none
            | some (v, h'') => body C u n (pc', L', v.toList ++ S', h'')
          | .inr (.inr (.inr (.inr r))) => some r) := rfl
theorem body_mono {C C' : Nat → List Value → AH → Option MRes} (hC : ∀ w as h r, C w as h = some r → C' w as h = some r) {u : Nat} : ∀ (n n' : Nat) (s : MN) (r : MRes), n ≤ n' → body C u n s = some r → body C' u n' s = some r := by
  intro n
  induction n with
  | zero => intro n' s r _ h; cases h
  | succ n ih =>
    intro n' s r hn h
    obtain ⟨m, rfl⟩ : ∃ m, n' = m + 1 := ⟨n' - 1, by omega⟩
    obtain ⟨pc, L, S, hp⟩ := s
    rw [body_s] at h ⊢
    cases hl : lkp (codeM u) pc with
    | none => rw [hl] at h; cases h
    | some ik =>
      obtain ⟨i, k⟩ := ik
      simp only [hl] at h ⊢
      cases hm : mstep (owM u) (rtM u) i pc k L S hp with
      | none => rw [hm] at h; cases h
      | some ga =>
        obtain ⟨g, a⟩ := ga
        simp only [hm] at h ⊢
        cases hg : allG g with
        | false => rw [hg] at h; cases h
        | true =>
          simp only [hg] at h ⊢
          rcases a with s | ⟨b, t, pc', L', S', h'⟩ | ⟨x, ps, e, L', S', h'⟩ | ⟨w, as, pc', L', S', h'⟩ | r'
          · exact ih _ _ _ (by omega) h
          · exact ih _ _ _ (by omega) h
          · exact ih _ _ _ (by omega) h
          · dsimp only at h ⊢
            cases hc : C w as h' with
            | none => rw [hc] at h; cases h
            | some vh =>
              obtain ⟨v, h2⟩ := vh
              rw [hC _ _ _ _ hc]
              simp only [hc] at h ⊢
              exact ih _ _ _ (by omega) h
          · exact h
theorem mcall_mono : ∀ (d d' N N' : Nat) (u : Nat) (as : List Value) (h : AH) (r : MRes), d ≤ d' → N ≤ N' → mcall d N u as h = some r → mcall d' N' u as h = some r := by
  intro d
  induction d with
  | zero => intro d' N N' u as h r _ _ hh; cases hh
  | succ d ih =>
    intro d' N N' u as h r hd hN hh
    obtain ⟨m, rfl⟩ : ∃ m, d' = m + 1 := ⟨d' - 1, by omega⟩
    exact body_mono (fun w as h r hc => ih m N N' w as h r (by omega) hN hc) _ _ _ _ hN hh
def Ret (d u : Nat) (as : List Value) (h : AH) (v : Option Value) (h' : AH) : Prop := ∃ N, mcall d N u as h = some (v, h')
theorem Ret.up {d d' u : Nat} {as : List Value} {h : AH} {v : Option Value} {h' : AH} (H : Ret d u as h v h') (hd : d ≤ d') : Ret d' u as h v h' := by
  obtain ⟨N, hN⟩ := H
  exact ⟨N, mcall_mono _ _ _ _ _ _ _ _ hd (Nat.le_refl _) hN⟩
theorem Ret.det {d d' u : Nat} {as : List Value} {h : AH} {v v2 : Option Value} {h1 h2 : AH} (H : Ret d u as h v h1) (H2 : Ret d' u as h v2 h2) : v2 = v ∧ h2 = h1 := by
  obtain ⟨N, hN⟩ := H
  obtain ⟨N2, hN2⟩ := H2
  have a := mcall_mono d (max d d') N (max N N2) u as h _ (by omega) (by omega) hN
  have b := mcall_mono d' (max d d') N2 (max N N2) u as h _ (by omega) (by omega) hN2
  rw [a] at b
  have := Option.some.inj b
  exact ⟨(Prod.mk.inj this).1.symm, (Prod.mk.inj this).2.symm⟩
def Safe (d u : Nat) (s : MN) (Q : Option Value → AH → Prop) : Prop := ∃ N n v h', body (mcall d N) u n s = some (v, h') ∧ Q v h'
def CallG (d w : Nat) (as : List Value) (h : AH) (K : Option Value → AH → Prop) : Prop := ∃ v h', Ret d w as h v h' ∧ K v h'
def CallI (d w : Nat) (as : List Value) (h : AH) (K : Int32 → AH → Prop) : Prop := ∃ x h', Ret d w as h (some (.int x)) h' ∧ K x h'
def CallJ (d w : Nat) (as : List Value) (h : AH) (K : Int64 → AH → Prop) : Prop := ∃ x h', Ret d w as h (some (.long x)) h' ∧ K x h'
def CallR (d w : Nat) (as : List Value) (h : AH) (K : Nat → AH → Prop) : Prop := ∃ x h', Ret d w as h (some (.ref x)) h' ∧ K x h'
def CallV (d w : Nat) (as : List Value) (h : AH) (K : AH → Prop) : Prop := ∃ h', Ret d w as h none h' ∧ K h'
theorem call_iff {d u : Nat} {as : List Value} {h : AH} {Q : Option Value → AH → Prop} : CallG (d + 1) u as h Q ↔ Safe d u (0, entL u as, [], h) Q := by
  constructor
  · rintro ⟨v, h', ⟨N, hN⟩, hq⟩
    exact ⟨N, N, v, h', hN, hq⟩
  · rintro ⟨N, n, v, h', hb, hq⟩
    refine ⟨v, h', ⟨max N n, ?_⟩, hq⟩
    exact body_mono (fun w as h r hc => mcall_mono _ _ _ _ _ _ _ _ (Nat.le_refl _) (Nat.le_max_left _ _) hc) _ _ _ _ (Nat.le_max_right _ _) hb
theorem ret_of {d u : Nat} {as : List Value} {h : AH} {v : Option Value} {h' : AH} (H : Safe d u (0, entL u as, [], h) (fun w k => w = v ∧ k = h')) : Ret (d + 1) u as h v h' := by
  obtain ⟨w, k, hr, rfl, rfl⟩ := call_iff.mpr H
  exact hr
theorem Ret.I {d d' u : Nat} {as : List Value} {h : AH} {x : Int32} {h' : AH} {K : Int32 → AH → Prop} (H : Ret d u as h (some (.int x)) h') (hd : d ≤ d') : CallI d' u as h K ↔ K x h' := by
  constructor
  · rintro ⟨y, k, hr, hk⟩
    obtain ⟨e1, rfl⟩ := H.det hr
    cases e1
    exact hk
  · exact fun hk => ⟨x, h', H.up hd, hk⟩
theorem Ret.J {d d' u : Nat} {as : List Value} {h : AH} {x : Int64} {h' : AH} {K : Int64 → AH → Prop} (H : Ret d u as h (some (.long x)) h') (hd : d ≤ d') : CallJ d' u as h K ↔ K x h' := by
  constructor
  · rintro ⟨y, k, hr, hk⟩
    obtain ⟨e1, rfl⟩ := H.det hr
    cases e1
    exact hk
  · exact fun hk => ⟨x, h', H.up hd, hk⟩
theorem Ret.R {d d' u : Nat} {as : List Value} {h : AH} {x : Nat} {h' : AH} {K : Nat → AH → Prop} (H : Ret d u as h (some (.ref x)) h') (hd : d ≤ d') : CallR d' u as h K ↔ K x h' := by
  constructor
  · rintro ⟨y, k, hr, hk⟩
    obtain ⟨e1, rfl⟩ := H.det hr
    cases e1
    exact hk
  · exact fun hk => ⟨x, h', H.up hd, hk⟩
theorem Ret.V {d d' u : Nat} {as : List Value} {h : AH} {h' : AH} {K : AH → Prop} (H : Ret d u as h none h') (hd : d ≤ d') : CallV d' u as h K ↔ K h' := by
  constructor
  · rintro ⟨k, hr, hk⟩
    obtain ⟨e1, rfl⟩ := H.det hr
    exact hk
  · exact fun hk => ⟨h', H.up hd, hk⟩
/-- what a step's act comes to -/
def actS (d u : Nat) (Q : Option Value → AH → Prop) : MAct → Prop
  | .inl s => Safe d u s Q
  | .inr (.inl (b, t, pc', L', S', h')) => Safe d u (bif b then t else pc', L', S', h') Q
  | .inr (.inr (.inl (x, ps, e, L', S', h'))) => Safe d u (swT x ps e, L', S', h') Q
  | .inr (.inr (.inr (.inl (w, as, pc', L', S', h')))) => CallG d w as h' (fun v h'' => Safe d u (pc', L', v.toList ++ S', h'') Q)
  | .inr (.inr (.inr (.inr r))) => Q r.1 r.2
theorem safe_step {d u pc : Nat} {L S : List Value} {h : AH} {Q : Option Value → AH → Prop} {i : Instr} {k : Nat} {g : List Bool} {a : MAct} (hl : lkp (codeM u) pc = some (i, k)) (hm : mstep (owM u) (rtM u) i pc k L S h = some (g, a)) :
    Safe d u (pc, L, S, h) Q ↔ (allG g = true ∧ actS d u Q a) := by
  constructor
  · rintro ⟨N, n, v, h', hb, hq⟩
    cases n with
    | zero => cases hb
    | succ n =>
      rw [body_s] at hb
      simp only [hl, hm] at hb
      cases hg : allG g with
      | false => rw [hg] at hb; cases hb
      | true =>
        simp only [hg] at hb
        refine ⟨rfl, ?_⟩
        rcases a with s | ⟨b, t, pc', L', S', h'⟩ | ⟨x, ps, e, L', S', h'⟩ | ⟨w, as, pc', L', S', h'⟩ | r'
        · exact ⟨N, n, v, _, hb, hq⟩
        · exact ⟨N, n, v, _, hb, hq⟩
        · exact ⟨N, n, v, _, hb, hq⟩
        · dsimp only at hb
          cases hc : mcall d N w as h' with
          | none => rw [hc] at hb; cases hb
          | some vh =>
            obtain ⟨v2, h2⟩ := vh
            simp only [hc] at hb
            exact ⟨_, _, ⟨N, hc⟩, N, n, v, _, hb, hq⟩
        · cases hb
          exact hq
  · rintro ⟨hg, ha⟩
    rcases a with s | ⟨b, t, pc', L', S', h'⟩ | ⟨x, ps, e, L', S', h'⟩ | ⟨w, as, pc', L', S', h'⟩ | r
    · obtain ⟨N, n, v, h', hb, hq⟩ := ha
      exact ⟨N, n + 1, v, h', by rw [body_s]; simp only [hl, hm, hg]; exact hb, hq⟩
    · obtain ⟨N, n, v, h', hb, hq⟩ := ha
      exact ⟨N, n + 1, v, h', by rw [body_s]; simp only [hl, hm, hg]; exact hb, hq⟩
    · obtain ⟨N, n, v, h', hb, hq⟩ := ha
      exact ⟨N, n + 1, v, h', by rw [body_s]; simp only [hl, hm, hg]; exact hb, hq⟩
    · obtain ⟨v, h2, ⟨N1, hN1⟩, N2, n, w2, h3, hb, hq⟩ := ha
      refine ⟨max N1 N2, n + 1, w2, h3, ?_, hq⟩
      rw [body_s]
      simp only [hl, hm, hg]
      rw [mcall_mono _ d N1 (max N1 N2) _ _ _ _ (Nat.le_refl _) (Nat.le_max_left _ _) hN1]
      exact body_mono (fun w as h r hc => mcall_mono _ _ _ _ _ _ _ _ (Nat.le_refl _) (Nat.le_max_right _ _) hc) _ _ _ _ (Nat.le_refl _) hb
    · exact ⟨0, 1, r.1, r.2, by rw [body_s]; simp only [hl, hm, hg], ha⟩
/-- a method answers by its kind -/
abbrev ansOk (rt : Nat) (v : Option Value) : Prop := (rt = 0 → v = none) ∧ (rt = 2 → ∃ x, v = some (.long x)) ∧ (rt = 3 → ∃ x, v = some (.ref x)) ∧ (rt ≠ 0 → rt ≠ 2 → rt ≠ 3 → ∃ x, v = some (.int x))
