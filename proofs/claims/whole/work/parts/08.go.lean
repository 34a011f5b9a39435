/-! answers by kind, and the formula 'go' -/
set_option maxHeartbeats 4000000 in
theorem mstep_ans {own rt : Nat} {i : Instr} {pc n : Nat} {L S : List Value} {h : AH} {g : List Bool} {r : MRes} (hm : mstep own rt i pc n L S h = some (g, .inr (.inr (.inr (.inr r))))) : ansOk rt r.1 := by
  unfold mstep at hm
  split at hm
  all_goals first
    | (cases hm; done)
    | (simp only [alR, asR, nxt, nxtG, ldI, ldJ, ldR, slI, slJ, slR, nwQ, nwP, nwR, lnR, alI, alJ, asI, asB, asJ, inJ, gfR, pfR, gsR, jmp, brn, brnG, uI, bI, dI, bJ, dJ, sJ, icI, isp, ins, mthI, mthJ, inv, cll, swM] at hm; (repeat' (split at hm)) <;> cases hm; done)
    | skip
  · split at hm
    · cases hm
      exact ⟨fun h => (by cases h), fun h => (by cases h), fun _ => ⟨_, rfl⟩, fun _ _ h => absurd rfl h⟩
    · cases hm
  · unfold rtI at hm
    split at hm
    · split at hm <;> cases hm <;> exact ⟨fun h => (by cases h), fun h => (by cases h), fun h => (by cases h), fun _ _ _ => ⟨_, rfl⟩⟩
    · cases hm
  · split at hm
    · cases hm
      exact ⟨fun h => (by cases h), fun _ => ⟨_, rfl⟩, fun h => (by cases h), fun _ h => absurd rfl h⟩
    · cases hm
  · split at hm
    · cases hm
      exact ⟨fun _ => rfl, fun h => (by cases h), fun h => (by cases h), fun h => absurd rfl h⟩
    · cases hm
theorem body_ans {C : Nat → List Value → AH → Option MRes} {u : Nat} : ∀ (n : Nat) (s : MN) (r : MRes), body C u n s = some r → ansOk (rtM u) r.1 := by
  intro n
  induction n with
  | zero => intro s r h; cases h
  | succ n ih =>
    intro s r h
    obtain ⟨pc, L, S, hp⟩ := s
    rw [body_s] at h
    cases hl : lkp (codeM u) pc with
    | none => rw [hl] at h; cases h
    | some ik =>
      obtain ⟨i, k⟩ := ik
      simp only [hl] at h
      cases hm : mstep (owM u) (rtM u) i pc k L S hp with
      | none => rw [hm] at h; cases h
      | some ga =>
        obtain ⟨g, a⟩ := ga
        simp only [hm] at h
        cases hg : allG g with
        | false => rw [hg] at h; cases h
        | true =>
          simp only [hg] at h
          rcases a with s | ⟨b, t, pc', L', S', h'⟩ | ⟨x, ps, e, L', S', h'⟩ | ⟨w, as, pc', L', S', h'⟩ | r'
          · exact ih _ _ h
          · exact ih _ _ h
          · exact ih _ _ h
          · dsimp only at h
            cases hc : C w as h' with
            | none => rw [hc] at h; cases h
            | some vh =>
              obtain ⟨v, h2⟩ := vh
              simp only [hc] at h
              exact ih _ _ h
          · cases h
            exact mstep_ans hm
theorem Ret.ans {d u : Nat} {as : List Value} {h : AH} {v : Option Value} {h' : AH} (H : Ret d u as h v h') : ansOk (rtM u) v := by
  obtain ⟨N, hN⟩ := H
  cases d with
  | zero => cases hN
  | succ d => exact body_ans _ _ _ hN
def gal : List Bool → Prop → Prop
  | [], P => P
  | b :: r, P => b = true ∧ gal r P
theorem gal_iff {P : Prop} : ∀ g : List Bool, gal g P ↔ (allG g = true ∧ P)
  | [] => by simp [gal, allG]
  | b :: r => by simp only [gal, allG, gal_iff r, Bool.and_eq_true, and_assoc]
def swG (x : Int32) : List (Int × Nat) → Nat → (Nat → Prop) → Prop
  | [], d, K => K d
  | (k, t) :: r, d, K => if decide (x = kI k) = true then K t else swG x r d K
theorem swG_iff (x : Int32) (K : Nat → Prop) (d : Nat) : ∀ ps : List (Int × Nat), swG x ps d K ↔ K (swT x ps d)
  | [] => Iff.rfl
  | (k, t) :: r => by
    unfold swG swT
    split
    · exact Iff.rfl
    · exact swG_iff x K d r
/-- a call, by the kind of its answer -/
def clG (d w : Nat) (as : List Value) (h : AH) (K : Option Value → AH → Prop) : Prop := match rtM w with
  | 0 => CallV d w as h (fun k => K none k)
  | 2 => CallJ d w as h (fun x k => K (some (.long x)) k)
  | 3 => CallR d w as h (fun x k => K (some (.ref x)) k)
  | _ => CallI d w as h (fun x k => K (some (.int x)) k)
theorem clG_iff {d w : Nat} {as : List Value} {h : AH} {K : Option Value → AH → Prop} : clG d w as h K ↔ CallG d w as h K := by
  unfold clG
  split
  · rename_i e
    constructor
    · rintro ⟨k, hr, hk⟩; exact ⟨_, _, hr, hk⟩
    · rintro ⟨v, k, hr, hk⟩
      obtain rfl := hr.ans.1 e
      exact ⟨_, hr, hk⟩
  · rename_i e
    constructor
    · rintro ⟨x, k, hr, hk⟩; exact ⟨_, _, hr, hk⟩
    · rintro ⟨v, k, hr, hk⟩
      obtain ⟨x, rfl⟩ := hr.ans.2.1 e
      exact ⟨_, _, hr, hk⟩
  · rename_i e
    constructor
    · rintro ⟨x, k, hr, hk⟩; exact ⟨_, _, hr, hk⟩
    · rintro ⟨v, k, hr, hk⟩
      obtain ⟨x, rfl⟩ := hr.ans.2.2.1 e
      exact ⟨_, _, hr, hk⟩
  · rename_i e0 e2 e3
    constructor
    · rintro ⟨x, k, hr, hk⟩; exact ⟨_, _, hr, hk⟩
    · rintro ⟨v, k, hr, hk⟩
      obtain ⟨x, rfl⟩ := hr.ans.2.2.2 (fun h => e0 h) (fun h => e2 h) (fun h => e3 h)
      exact ⟨_, _, hr, hk⟩
