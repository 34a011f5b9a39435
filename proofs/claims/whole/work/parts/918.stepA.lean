/-! each step of the small machine is a step of the real one: locals, numbers, constants, stack -/
section STP
variable {p : Program} {l : Launch} {e : Env} {R : Room} {s : State} {m : MethodId} {args : Array Value} {below : List Frame} {meth : Method} {c : Code} {Q : State → Prop} {B : Nat} {o : Nat → Nat} {D : va_G} {ca : Nat → ClassId} {h0 : AH} {u z0 u0 : Nat}
def FX (B : Nat) (o : Nat → Nat) (D : va_G) (ca : Nat → ClassId) (h0 : AH) (u : Nat) (p : Program) (s : State) (m : MethodId) (args : Array Value) (meth : Method) (c : Code) : Prop :=
  p.tables.exec = Jvm.exec ∧ c.code = cM u ∧ c.maxLocals = mxM u ∧ s.vm.findClass (RC (owM u)) = some m.cls ∧ (∀ w ∈ lw_gd, w.before args s = true) ∧ (kdM u = 2 → meth.name = "<init>") ∧ Ctx B o D ca h0 s ∧ B ≤ s.heap.size
def WA (p : Program) (l : Launch) (e : Env) (R : Room) (s : State) (m : MethodId) (args : Array Value) (below : List Frame) (meth : Method) (c : Code) (Q : State → Prop) (B : Nat) (o : Nat → Nat) (D : va_G) (ca : Nat → ClassId) (h0 : AH) (u z0 u0 : Nat) (st : MN) : Prop :=
  ∀ (H : Heap) (locs : List Loc) (ls : Array Slot), HR B o D ca h0 st.2.2.2 H → LRr B o ls (mxM u) st.2.1 → va_S (owA B) s.heap H locs → W p l e R s m args below meth c H locs (szA st.2.2.2 - z0) (usA st.2.2.2 - u0) Q (F0 m st.1 ls (st.2.2.1.map (tV B o)))
variable {pc pc' : Nat} {L L' S S' : List Value} {h h' : AH} {g : List Bool}
theorem sp_bI {f : Int32 → Int32 → Int32} {n : Nat} (row : ∀ (H : Heap) (locs : List Loc) (ls : Array Slot) (cells slots : Nat) (x y : Int32) (rest : List Value), W p l e R s m args below meth c H locs cells slots Q (F0 m n ls (.int (f x y) :: rest)) → W p l e R s m args below meth c H locs cells slots Q (F0 m pc ls (.int y :: .int x :: rest)))
    (hm : bI f n L S h = some (g, .inl (pc', L', S', h'))) (K : WA p l e R s m args below meth c Q B o D ca h0 u z0 u0 (pc', L', S', h')) : WA p l e R s m args below meth c Q B o D ca h0 u z0 u0 (pc, L, S, h) := by
  unfold bI nxt at hm
  split at hm
  · cases hm
    intro H locs ls hR hL hS
    exact row _ _ _ _ _ _ _ _ (K H locs ls hR hL hS)
  · cases hm
theorem sp_dI {f : Int32 → Int32 → Int32} {n : Nat} (row : ∀ (H : Heap) (locs : List Loc) (ls : Array Slot) (cells slots : Nat) (x y : Int32) (rest : List Value), ¬ y = 0 → W p l e R s m args below meth c H locs cells slots Q (F0 m n ls (.int (f x y) :: rest)) → W p l e R s m args below meth c H locs cells slots Q (F0 m pc ls (.int y :: .int x :: rest)))
    (hm : dI f n L S h = some (g, .inl (pc', L', S', h'))) (hg : allG g = true) (K : WA p l e R s m args below meth c Q B o D ca h0 u z0 u0 (pc', L', S', h')) : WA p l e R s m args below meth c Q B o D ca h0 u z0 u0 (pc, L, S, h) := by
  unfold dI nxtG at hm
  split at hm
  · cases hm
    simp only [allG, Bool.and_true, Bool.not_eq_true', decide_eq_false_iff_not] at hg
    intro H locs ls hR hL hS
    exact row _ _ _ _ _ _ _ _ hg (K H locs ls hR hL hS)
  · cases hm
theorem sp_uI {f : Int32 → Int32} {n : Nat} (row : ∀ (H : Heap) (locs : List Loc) (ls : Array Slot) (cells slots : Nat) (x : Int32) (rest : List Value), W p l e R s m args below meth c H locs cells slots Q (F0 m n ls (.int (f x) :: rest)) → W p l e R s m args below meth c H locs cells slots Q (F0 m pc ls (.int x :: rest)))
    (hm : uI f n L S h = some (g, .inl (pc', L', S', h'))) (K : WA p l e R s m args below meth c Q B o D ca h0 u z0 u0 (pc', L', S', h')) : WA p l e R s m args below meth c Q B o D ca h0 u z0 u0 (pc, L, S, h) := by
  unfold uI nxt at hm
  split at hm
  · cases hm
    intro H locs ls hR hL hS
    exact row _ _ _ _ _ _ _ (K H locs ls hR hL hS)
  · cases hm
theorem sp_bJ {f : Int64 → Int64 → Int64} {n : Nat} (row : ∀ (H : Heap) (locs : List Loc) (ls : Array Slot) (cells slots : Nat) (x y : Int64) (rest : List Value), W p l e R s m args below meth c H locs cells slots Q (F0 m n ls (.long (f x y) :: rest)) → W p l e R s m args below meth c H locs cells slots Q (F0 m pc ls (.long y :: .long x :: rest)))
    (hm : bJ f n L S h = some (g, .inl (pc', L', S', h'))) (K : WA p l e R s m args below meth c Q B o D ca h0 u z0 u0 (pc', L', S', h')) : WA p l e R s m args below meth c Q B o D ca h0 u z0 u0 (pc, L, S, h) := by
  unfold bJ nxt at hm
  split at hm
  · cases hm
    intro H locs ls hR hL hS
    exact row _ _ _ _ _ _ _ _ (K H locs ls hR hL hS)
  · cases hm
theorem sp_dJ {f : Int64 → Int64 → Int64} {n : Nat} (row : ∀ (H : Heap) (locs : List Loc) (ls : Array Slot) (cells slots : Nat) (x y : Int64) (rest : List Value), ¬ y = 0 → W p l e R s m args below meth c H locs cells slots Q (F0 m n ls (.long (f x y) :: rest)) → W p l e R s m args below meth c H locs cells slots Q (F0 m pc ls (.long y :: .long x :: rest)))
    (hm : dJ f n L S h = some (g, .inl (pc', L', S', h'))) (hg : allG g = true) (K : WA p l e R s m args below meth c Q B o D ca h0 u z0 u0 (pc', L', S', h')) : WA p l e R s m args below meth c Q B o D ca h0 u z0 u0 (pc, L, S, h) := by
  unfold dJ nxtG at hm
  split at hm
  · cases hm
    simp only [allG, Bool.and_true, Bool.not_eq_true', decide_eq_false_iff_not] at hg
    intro H locs ls hR hL hS
    exact row _ _ _ _ _ _ _ _ hg (K H locs ls hR hL hS)
  · cases hm
theorem sp_sJ {f : Int64 → Int32 → Int64} {n : Nat} (row : ∀ (H : Heap) (locs : List Loc) (ls : Array Slot) (cells slots : Nat) (x : Int64) (y : Int32) (rest : List Value), W p l e R s m args below meth c H locs cells slots Q (F0 m n ls (.long (f x y) :: rest)) → W p l e R s m args below meth c H locs cells slots Q (F0 m pc ls (.int y :: .long x :: rest)))
    (hm : sJ f n L S h = some (g, .inl (pc', L', S', h'))) (K : WA p l e R s m args below meth c Q B o D ca h0 u z0 u0 (pc', L', S', h')) : WA p l e R s m args below meth c Q B o D ca h0 u z0 u0 (pc, L, S, h) := by
  unfold sJ nxt at hm
  split at hm
  · cases hm
    intro H locs ls hR hL hS
    exact row _ _ _ _ _ _ _ _ (K H locs ls hR hL hS)
  · cases hm
/-- a step that only touches the stack -/
theorem sp_st {n : Nat} {S2 : List Value} (row : ∀ (H : Heap) (locs : List Loc) (ls : Array Slot) (cells slots : Nat), W p l e R s m args below meth c H locs cells slots Q (F0 m n ls (S2.map (tV B o))) → W p l e R s m args below meth c H locs cells slots Q (F0 m pc ls (S.map (tV B o))))
    (hm : nxt n L S2 h = some (g, .inl (pc', L', S', h'))) (K : WA p l e R s m args below meth c Q B o D ca h0 u z0 u0 (pc', L', S', h')) : WA p l e R s m args below meth c Q B o D ca h0 u z0 u0 (pc, L, S, h) := by
  unfold nxt at hm
  cases hm
  intro H locs ls hR hL hS
  exact row _ _ _ _ _ (K H locs ls hR hL hS)
theorem sp_ldI {i n : Nat} (row : ∀ (H : Heap) (locs : List Loc) (ls : Array Slot) (cells slots : Nat) (x : Int32) (rest : List Value), ls[i]? = some (.val (.int x)) → W p l e R s m args below meth c H locs cells slots Q (F0 m n ls (.int x :: rest)) → W p l e R s m args below meth c H locs cells slots Q (F0 m pc ls rest))
    (hm : ldI i n L S h = some (g, .inl (pc', L', S', h'))) (K : WA p l e R s m args below meth c Q B o D ca h0 u z0 u0 (pc', L', S', h')) : WA p l e R s m args below meth c Q B o D ca h0 u z0 u0 (pc, L, S, h) := by
  unfold ldI nxt at hm
  split at hm
  · rename_i x hx
    cases hm
    intro H locs ls hR hL hS
    exact row _ _ _ _ _ _ _ (hL.at hx (fun e => by cases e)) (K H locs ls hR hL hS)
  · cases hm
theorem sp_ldJ {i n : Nat} (row : ∀ (H : Heap) (locs : List Loc) (ls : Array Slot) (cells slots : Nat) (x : Int64) (rest : List Value), ls[i]? = some (.val (.long x)) → W p l e R s m args below meth c H locs cells slots Q (F0 m n ls (.long x :: rest)) → W p l e R s m args below meth c H locs cells slots Q (F0 m pc ls rest))
    (hm : ldJ i n L S h = some (g, .inl (pc', L', S', h'))) (K : WA p l e R s m args below meth c Q B o D ca h0 u z0 u0 (pc', L', S', h')) : WA p l e R s m args below meth c Q B o D ca h0 u z0 u0 (pc, L, S, h) := by
  unfold ldJ nxt at hm
  split at hm
  · rename_i x hx
    cases hm
    intro H locs ls hR hL hS
    exact row _ _ _ _ _ _ _ (hL.at hx (fun e => by cases e)) (K H locs ls hR hL hS)
  · cases hm
theorem sp_ldR {i n : Nat} (row : ∀ (H : Heap) (locs : List Loc) (ls : Array Slot) (cells slots : Nat) (x : Nat) (rest : List Value), ls[i]? = some (.val (.ref x)) → W p l e R s m args below meth c H locs cells slots Q (F0 m n ls (.ref x :: rest)) → W p l e R s m args below meth c H locs cells slots Q (F0 m pc ls rest))
    (rowN : ∀ (H : Heap) (locs : List Loc) (ls : Array Slot) (cells slots : Nat) (rest : List Value), ls[i]? = some (.val .null) → W p l e R s m args below meth c H locs cells slots Q (F0 m n ls (.null :: rest)) → W p l e R s m args below meth c H locs cells slots Q (F0 m pc ls rest))
    (hm : ldR i n L S h = some (g, .inl (pc', L', S', h'))) (K : WA p l e R s m args below meth c Q B o D ca h0 u z0 u0 (pc', L', S', h')) : WA p l e R s m args below meth c Q B o D ca h0 u z0 u0 (pc, L, S, h) := by
  unfold ldR nxt at hm
  split at hm
  · rename_i x hx
    cases hm
    intro H locs ls hR hL hS
    have h1 := hL.at hx (fun e => by cases e)
    have h2 := K H locs ls hR hL hS
    by_cases e0 : x = 0
    · subst e0
      exact rowN _ _ _ _ _ _ h1 h2
    · rw [tV_r B o e0] at h1
      simp only [List.map_cons, tV_r B o e0] at h2
      exact row _ _ _ _ _ _ _ h1 h2
  · cases hm
theorem sp_slI {i n : Nat} (row : ∀ (H : Heap) (locs : List Loc) (ls : Array Slot) (cells slots : Nat) (x : Int32) (rest : List Value) (lv lv' : List (Nat × Value)), lv_has ls (mxM u) lv → i < mxM u → (i, Value.int x) :: lv.filter (fun q => !(q.1 == i) && !(q.1 + 1 == i && q.2.category == 2)) = lv' → (∀ ls' : Array Slot, lv_has ls' (mxM u) lv' → W p l e R s m args below meth c H locs cells slots Q (F0 m n ls' rest)) → W p l e R s m args below meth c H locs cells slots Q (F0 m pc ls (.int x :: rest)))
    (hm : slI i n L S h = some (g, .inl (pc', L', S', h'))) (K : WA p l e R s m args below meth c Q B o D ca h0 u z0 u0 (pc', L', S', h')) : WA p l e R s m args below meth c Q B o D ca h0 u z0 u0 (pc, L, S, h) := by
  unfold slI nxt at hm
  split at hm
  · rename_i x rest hb
    cases hm
    intro H locs ls hR hL hS
    have hi : i < mxM u := by rw [← hL.2.2.1]; exact Nat.le_of_ble_eq_true hb
    exact row _ _ _ _ _ _ _ _ _ hL.has hi rfl (fun ls' h' => K H locs ls' hR (hL.one (v := .int x) hi rfl h') hS)
  · cases hm
theorem sp_slR {i n : Nat} (row : ∀ (H : Heap) (locs : List Loc) (ls : Array Slot) (cells slots : Nat) (x : Nat) (rest : List Value) (lv lv' : List (Nat × Value)), lv_has ls (mxM u) lv → i < mxM u → (i, Value.ref x) :: lv.filter (fun q => !(q.1 == i) && !(q.1 + 1 == i && q.2.category == 2)) = lv' → (∀ ls' : Array Slot, lv_has ls' (mxM u) lv' → W p l e R s m args below meth c H locs cells slots Q (F0 m n ls' rest)) → W p l e R s m args below meth c H locs cells slots Q (F0 m pc ls (.ref x :: rest)))
    (rowN : ∀ (H : Heap) (locs : List Loc) (ls : Array Slot) (cells slots : Nat) (rest : List Value) (lv lv' : List (Nat × Value)), lv_has ls (mxM u) lv → i < mxM u → (i, Value.null) :: lv.filter (fun q => !(q.1 == i) && !(q.1 + 1 == i && q.2.category == 2)) = lv' → (∀ ls' : Array Slot, lv_has ls' (mxM u) lv' → W p l e R s m args below meth c H locs cells slots Q (F0 m n ls' rest)) → W p l e R s m args below meth c H locs cells slots Q (F0 m pc ls (.null :: rest)))
    (hm : slR i n L S h = some (g, .inl (pc', L', S', h'))) (K : WA p l e R s m args below meth c Q B o D ca h0 u z0 u0 (pc', L', S', h')) : WA p l e R s m args below meth c Q B o D ca h0 u z0 u0 (pc, L, S, h) := by
  unfold slR nxt at hm
  split at hm
  · rename_i x rest hb
    cases hm
    intro H locs ls hR hL hS
    have hi : i < mxM u := by rw [← hL.2.2.1]; exact Nat.le_of_ble_eq_true hb
    by_cases e0 : x = 0
    · subst e0
      exact rowN _ _ _ _ _ _ _ _ hL.has hi rfl (fun ls' h' => K H locs ls' hR (hL.one (v := .ref 0) hi rfl h') hS)
    · simp only [List.map_cons, tV_r B o e0]
      refine row _ _ _ _ _ _ _ _ _ hL.has hi rfl (fun ls' h' => K H locs ls' hR (hL.one (v := .ref x) hi rfl ?_) hS)
      rw [tV_r B o e0]
      exact h'
  · cases hm
theorem sp_slJ {i n : Nat} (row : ∀ (H : Heap) (locs : List Loc) (ls : Array Slot) (cells slots : Nat) (x : Int64) (rest : List Value) (lv lv' : List (Nat × Value)), lv_has ls (mxM u) lv → i + 1 < mxM u → (i, Value.long x) :: lv.filter (fun q => !(q.1 == i) && (!(q.1 == i + 1) && !(q.1 + 1 == i && q.2.category == 2))) = lv' → (∀ ls' : Array Slot, lv_has ls' (mxM u) lv' → W p l e R s m args below meth c H locs cells slots Q (F0 m n ls' rest)) → W p l e R s m args below meth c H locs cells slots Q (F0 m pc ls (.long x :: rest)))
    (hm : slJ i n L S h = some (g, .inl (pc', L', S', h'))) (K : WA p l e R s m args below meth c Q B o D ca h0 u z0 u0 (pc', L', S', h')) : WA p l e R s m args below meth c Q B o D ca h0 u z0 u0 (pc, L, S, h) := by
  unfold slJ nxt at hm
  split at hm
  · rename_i x rest hb
    cases hm
    intro H locs ls hR hL hS
    have hi : i + 1 < mxM u := by rw [← hL.2.2.1]; exact Nat.le_of_ble_eq_true hb
    exact row _ _ _ _ _ _ _ _ _ hL.has hi rfl (fun ls' h' => K H locs ls' hR (hL.two hi h') hS)
  · cases hm
theorem sp_icI {i n : Nat} {z : Int} (row : ∀ (H : Heap) (locs : List Loc) (ls : Array Slot) (cells slots : Nat) (x v : Int32) (rest : List Value) (k : Nat) (lv lv' : List (Nat × Value)), lv_has ls (mxM u) lv → lv[k]? = some (i, .int x) → x + Int32.ofInt z = v → i < mxM u → (i, Value.int v) :: lv.filter (fun q => !(q.1 == i) && !(q.1 + 1 == i && q.2.category == 2)) = lv' → (∀ ls' : Array Slot, lv_has ls' (mxM u) lv' → W p l e R s m args below meth c H locs cells slots Q (F0 m n ls' rest)) → W p l e R s m args below meth c H locs cells slots Q (F0 m pc ls rest))
    (hm : icI i z n L S h = some (g, .inl (pc', L', S', h'))) (K : WA p l e R s m args below meth c Q B o D ca h0 u z0 u0 (pc', L', S', h')) : WA p l e R s m args below meth c Q B o D ca h0 u z0 u0 (pc, L, S, h) := by
  unfold icI nxt at hm
  split at hm
  · rename_i x hx
    cases hm
    intro H locs ls hR hL hS
    have hi : i < mxM u := by rw [← hL.2.2.1]; exact (List.getElem?_eq_some_iff.mp hx).1
    have hmem : (i, Value.int x) ∈ lvO B o L := lvO_mem.mpr ⟨.int x, hx, (fun e => by cases e), rfl⟩
    obtain ⟨k, hk⟩ := List.getElem?_of_mem hmem
    exact row _ _ _ _ _ _ _ _ k _ _ hL.has hk rfl hi rfl (fun ls' h' => K H locs ls' hR (hL.one (v := .int (x + kI z)) hi rfl h') hS)
  · cases hm
theorem sp_jmp {t : Int} (row : ∀ (H : Heap) (locs : List Loc) (ls : Array Slot) (cells slots tgt : Nat) (rest : List Value), t = (tgt : Int) → W p l e R s m args below meth c H locs cells slots Q (F0 m tgt ls rest) → W p l e R s m args below meth c H locs cells slots Q (F0 m pc ls rest))
    (hm : jmp t L S h = some (g, .inl (pc', L', S', h'))) (K : WA p l e R s m args below meth c Q B o D ca h0 u z0 u0 (pc', L', S', h')) : WA p l e R s m args below meth c Q B o D ca h0 u z0 u0 (pc, L, S, h) := by
  unfold jmp at hm
  split at hm
  · cases hm
    intro H locs ls hR hL hS
    exact row _ _ _ _ _ _ _ rfl (K H locs ls hR hL hS)
  · cases hm
end STP
