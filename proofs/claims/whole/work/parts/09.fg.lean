/-! what a method forgets of its locals doesn't matter: a run that goes through without a local goes through with it -/
def Fg (L L' : List Value) : Prop := L.length = L'.length ∧ ∀ (i : Nat) (v : Value), L'[i]? = some v → v ≠ unV → L[i]? = some v
def plug (a : MAct) (L : List Value) : MAct := match a with
  | .inl (pc, _, S, h) => .inl (pc, L, S, h)
  | .inr (.inl (b, t, pc, _, S, h)) => .inr (.inl (b, t, pc, L, S, h))
  | .inr (.inr (.inl (x, ps, e, _, S, h))) => .inr (.inr (.inl (x, ps, e, L, S, h)))
  | .inr (.inr (.inr (.inl (w, as, pc, _, S, h)))) => .inr (.inr (.inr (.inl (w, as, pc, L, S, h))))
  | .inr (.inr (.inr (.inr r))) => .inr (.inr (.inr (.inr r)))
def plugM (m : MR) (L : List Value) : MR := match m with
  | some (g, a) => some (g, plug a L)
  | none => none
def isLoc (i : Instr) : Bool := match i with
  | .iload _ => true
  | .iload_n _ => true
  | .lload _ => true
  | .lload_n _ => true
  | .aload _ => true
  | .aload_n _ => true
  | .istore _ => true
  | .istore_n _ => true
  | .lstore _ => true
  | .lstore_n _ => true
  | .astore _ => true
  | .astore_n _ => true
  | .iinc _ _ => true
  | _ => false
set_option maxHeartbeats 4000000 in
theorem mstep_plug {own rt : Nat} {i : Instr} (hi : isLoc i = false) (pc n : Nat) (L L' S : List Value) (h : AH) : mstep own rt i pc n L S h = plugM (mstep own rt i pc n L' S h) L := by
  unfold mstep
  split
  all_goals first
    | (cases hi; done)
    | (simp only [alR, asR, nxt, nxtG, nwQ, nwP, nwR, lnR, alI, alJ, asI, asB, asJ, inJ, gfR, pfR, gsR, jmp, brn, brnG, uI, bI, dI, bJ, dJ, sJ, isp, ins, mthI, mthJ, inv, cll, swM, rtI]; (repeat' split) <;> rfl)
    | ((repeat' split) <;> rfl)
theorem fg_set {L L' : List Value} (hF : Fg L L') (i : Nat) (v : Value) : Fg (L.set i v) (L'.set i v) := by
  refine ⟨by simp [hF.1], fun j w hj hw => ?_⟩
  rw [List.getElem?_set] at hj ⊢
  by_cases e : i = j
  · subst e
    rw [if_pos rfl] at hj ⊢
    rw [hF.1]
    exact hj
  · rw [if_neg e] at hj ⊢
    exact hF.2 j w hj hw
theorem setL_s (L : List Value) (j : Nat) (v : Value) : setL L (j + 1) v = (match L[j]? with
    | some (.long _) => (L.set j unV).set (j + 1) v
    | _ => L.set (j + 1) v) := rfl
theorem fg_setL {L L' : List Value} (hF : Fg L L') (i : Nat) (v : Value) : Fg (setL L i v) (setL L' i v) := by
  cases i with
  | zero => exact fg_set hF 0 v
  | succ j =>
    have hl : ∀ x : Int64, L'[j]? = some (.long x) → L[j]? = some (.long x) := fun x h => hF.2 j _ h (fun e => by cases e)
    rw [setL_s, setL_s]
    split
    · rename_i x h1
      split
      · exact fg_set (fg_set hF j unV) (j + 1) v
      · rename_i h2
        refine fg_set ?_ (j + 1) v
        refine ⟨by simp [hF.1], fun k w hk hw => ?_⟩
        rw [List.getElem?_set]
        by_cases e : j = k
        · subst e
          have h3 := hF.2 j w hk hw
          rw [h1] at h3
          cases h3
          exact absurd hk (h2 _)
        · rw [if_neg e]
          exact hF.2 k w hk hw
    · rename_i h1
      split
      · rename_i x h2
        exact absurd (hl x h2) (h1 x)
      · exact fg_set hF (j + 1) v
theorem fg_setL2 {L L' : List Value} (hF : Fg L L') (i : Nat) (v : Value) : Fg (setL2 L i v) (setL2 L' i v) := fg_set (fg_setL hF i v) (i + 1) unV
def FgA (a a' : MAct) : Prop := ∃ L L', Fg L L' ∧ a = plug a L ∧ a' = plug a L'
theorem plug_plug (a : MAct) (L L' : List Value) : plug (plug a L) L' = plug a L' := by
  rcases a with ⟨pc', L', S', h'⟩ | ⟨b, t, pc', L', S', h'⟩ | ⟨x, ps, e, L', S', h'⟩ | ⟨w, as, pc', L', S', h'⟩ | r' <;> rfl
set_option maxHeartbeats 4000000 in
theorem mstep_fg {own rt : Nat} {i : Instr} {pc n : Nat} {L L' S : List Value} {h : AH} {g : List Bool} {a' : MAct} (hF : Fg L L') (hm : mstep own rt i pc n L' S h = some (g, a')) : ∃ a, mstep own rt i pc n L S h = some (g, a) ∧ FgA a a' := by
  by_cases hi : isLoc i = false
  · refine ⟨plug a' L, by rw [mstep_plug hi pc n L L' S h, hm]; rfl, L, L', hF, (plug_plug _ _ _).symm, ?_⟩
    rw [plug_plug]
    have h2 := mstep_plug (own := own) (rt := rt) hi pc n L' L' S h
    rw [hm] at h2
    exact (Prod.mk.inj (Option.some.inj h2)).2
  · have ld : ∀ (k : Nat) (v : Value), v ≠ unV → L'[k]? = some v → L[k]? = some v := fun k v h1 h2 => hF.2 k v h2 h1
    have hlen := hF.1
    have fin : ∀ (pc : Nat) (Z Z' S : List Value) (h : AH), Fg Z Z' → FgA (.inl (pc, Z, S, h)) (.inl (pc, Z', S, h)) := fun pc Z Z' S h hz => ⟨Z, Z', hz, rfl, rfl⟩
    cases i
    all_goals first
      | exact absurd rfl hi
      | skip
    all_goals simp only [mstep, ldI, ldJ, ldR, slI, slJ, slR, icI, nxt] at hm ⊢
    all_goals (repeat' split at hm)
    all_goals first
      | (cases hm; done)
      | skip
    all_goals (cases hm)
    all_goals first
      | (rename_i x he; refine ⟨_, ?_, fin _ _ _ _ _ hF⟩; rw [ld _ _ (fun e => by cases e) he]; done)
      | (rename_i x he; refine ⟨_, ?_, fin _ _ _ _ _ (fg_setL hF _ _)⟩; rw [ld _ _ (fun e => by cases e) he]; done)
      | (refine ⟨_, ?_, fin _ _ _ _ _ (fg_setL hF _ _)⟩; rename_i hb; rw [hlen, hb]; done)
      | (refine ⟨_, ?_, fin _ _ _ _ _ (fg_setL2 hF _ _)⟩; rename_i hb; rw [hlen, hb]; done)
      | skip
