/-! one step of the small machine, as a step of the real one -/
theorem bip8 {z : Int} (h1 : -128 ≤ z) (h2 : z ≤ 127) : (Int8.ofInt z).toInt32 = Int32.ofInt z := by
  apply Int32.toInt_inj.mp
  rw [Int8.toInt_toInt32, Int8.toInt_ofInt_of_le (by omega) (by omega), Int32.toInt_ofInt_of_le (by omega) (by omega)]
theorem bip16 {z : Int} (h1 : -32768 ≤ z) (h2 : z ≤ 32767) : (Int16.ofInt z).toInt32 = Int32.ofInt z := by
  apply Int32.toInt_inj.mp
  rw [Int16.toInt_toInt32, Int16.toInt_ofInt_of_le (by omega) (by omega), Int32.toInt_ofInt_of_le (by omega) (by omega)]
section STP
variable {p : Program} {l : Launch} {e : Env} {R : Room} {s : State} {m : MethodId} {args : Array Value} {below : List Frame} {meth : Method} {c : Code} {Q : State → Prop} {B : Nat} {o : Nat → Nat} {D : va_G} {ca : Nat → ClassId} {h0 : AH} {u z0 u0 : Nat} {pc pc' : Nat} {L L' S S' : List Value} {h h' : AH} {g : List Bool}
theorem sp_inJ {z lo hi : Int} {n : Nat} (row : lo ≤ z → z ≤ hi → ∀ (H : Heap) (locs : List Loc) (ls : Array Slot) (cells slots : Nat) (rest : List Value), W p l e R s m args below meth c H locs cells slots Q (F0 m n ls (.int (kI z) :: rest)) → W p l e R s m args below meth c H locs cells slots Q (F0 m pc ls rest))
    (hm : inJ z lo hi n L S h = some (g, .inl (pc', L', S', h'))) (K : WA p l e R s m args below meth c Q B o D ca h0 u z0 u0 (pc', L', S', h')) : WA p l e R s m args below meth c Q B o D ca h0 u z0 u0 (pc, L, S, h) := by
  unfold inJ nxt at hm
  split at hm
  · rename_i h1 h2
    cases hm
    intro H locs ls hR hL hS
    exact row (of_decide_eq_true h1) (of_decide_eq_true h2) _ _ _ _ _ _ (K H locs ls hR hL hS)
  · cases hm
theorem cat_room {r : List Value} {n : Nat} (hcat : catS r = true) (h : n ≤ 20) (hlo : 50 ≤ R.locals) : ((r.map (tV B o)).map fun v => v.category).sum + n ≤ R.locals := by
  rw [cat_map]
  have := catS_le hcat
  omega
theorem sp_m_abs (F : FX B o D ca h0 u p s m args meth c) {i : Nat} {x : Int32} {r : List Value} (hd : decode (cM u) pc = .ok (.invokestatic i, 3)) (hmT : mT (owM u) i = some 9991) (hcat : catS r = true) (hf : 1 ≤ R.frames) (hlo : 50 ≤ R.locals) (hc : szA h - z0 ≤ R.cells) (hs : usA h - u0 ≤ R.slots) (K : WA p l e R s m args below meth c Q B o D ca h0 u z0 u0 (pc + 3, L, .int (if 0 ≤ x then x else 0 - x) :: r, h)) : WA p l e R s m args below meth c Q B o D ca h0 u z0 u0 (pc, L, .int x :: r, h) := by
  obtain ⟨hx, hb, hml, hown, hts, hin, hC, hB⟩ := F
  obtain ⟨pp, hw⟩ := wM hmT
  unfold mWc at hw
  simp only [if_neg (show (9991 : Nat) ≠ 9999 by decide), if_neg (show (9991 : Nat) ≠ 9998 by decide), if_neg (show (9991 : Nat) ≠ 9997 by decide), if_neg (show (9991 : Nat) ≠ 9990 by decide), if_true] at hw
  intro H locs ls hR hL hS
  exact va_mabs hx hb (by rw [hml]; exact hL.1.symm) hown (hts _ (gd_of (inT_mem hw) rfl)) (hts _ (gd_of (w := .static Lib.Math.abs.name) (by decide +kernel) rfl)) (hts _ (gd_of (w := .initialized "java/lang/Math") (by decide +kernel) rfl)) (hts _ (gd_of (w := .code Lib.Math.abs.name Lib.Math.abs.code 1 (some .int)) (by decide +kernel) rfl)) hf (cat_room hcat (by omega) hlo) hc hs hd (K H locs ls hR hL hS)
theorem sp_m_max (F : FX B o D ca h0 u p s m args meth c) {i : Nat} {x y : Int32} {r : List Value} (hd : decode (cM u) pc = .ok (.invokestatic i, 3)) (hmT : mT (owM u) i = some 9992) (hcat : catS r = true) (hf : 1 ≤ R.frames) (hlo : 50 ≤ R.locals) (hc : szA h - z0 ≤ R.cells) (hs : usA h - u0 ≤ R.slots) (K : WA p l e R s m args below meth c Q B o D ca h0 u z0 u0 (pc + 3, L, .int (if x < y then y else x) :: r, h)) : WA p l e R s m args below meth c Q B o D ca h0 u z0 u0 (pc, L, .int y :: .int x :: r, h) := by
  obtain ⟨hx, hb, hml, hown, hts, hin, hC, hB⟩ := F
  obtain ⟨pp, hw⟩ := wM hmT
  unfold mWc at hw
  simp only [if_neg (show (9992 : Nat) ≠ 9999 by decide), if_neg (show (9992 : Nat) ≠ 9998 by decide), if_neg (show (9992 : Nat) ≠ 9997 by decide), if_neg (show (9992 : Nat) ≠ 9990 by decide), if_neg (show (9992 : Nat) ≠ 9991 by decide), if_true] at hw
  intro H locs ls hR hL hS
  exact va_mmax hx hb (by rw [hml]; exact hL.1.symm) hown (hts _ (gd_of (inT_mem hw) rfl)) (hts _ (gd_of (w := .static Lib.Math.max.name) (by decide +kernel) rfl)) (hts _ (gd_of (w := .initialized "java/lang/Math") (by decide +kernel) rfl)) (hts _ (gd_of (w := .code Lib.Math.max.name Lib.Math.max.code 2 (some .int)) (by decide +kernel) rfl)) hf (cat_room hcat (by omega) hlo) hc hs hd (K H locs ls hR hL hS)
theorem sp_m_maxJ (F : FX B o D ca h0 u p s m args meth c) {i : Nat} {x y : Int64} {r : List Value} (hd : decode (cM u) pc = .ok (.invokestatic i, 3)) (hmT : mT (owM u) i = some 9993) (hcat : catS r = true) (hf : 1 ≤ R.frames) (hlo : 50 ≤ R.locals) (hc : szA h - z0 ≤ R.cells) (hs : usA h - u0 ≤ R.slots) (K : WA p l e R s m args below meth c Q B o D ca h0 u z0 u0 (pc + 3, L, .long (if y < x then x else y) :: r, h)) : WA p l e R s m args below meth c Q B o D ca h0 u z0 u0 (pc, L, .long y :: .long x :: r, h) := by
  obtain ⟨hx, hb, hml, hown, hts, hin, hC, hB⟩ := F
  obtain ⟨pp, hw⟩ := wM hmT
  unfold mWc at hw
  simp only [if_neg (show (9993 : Nat) ≠ 9999 by decide), if_neg (show (9993 : Nat) ≠ 9998 by decide), if_neg (show (9993 : Nat) ≠ 9997 by decide), if_neg (show (9993 : Nat) ≠ 9990 by decide), if_neg (show (9993 : Nat) ≠ 9991 by decide), if_neg (show (9993 : Nat) ≠ 9992 by decide), if_true] at hw
  intro H locs ls hR hL hS
  exact va_mmax_long hx hb (by rw [hml]; exact hL.1.symm) hown (hts _ (gd_of (inT_mem hw) rfl)) (hts _ (gd_of (w := .static Lib.MathLoose.max_long.x) (by decide +kernel) rfl)) (hts _ (gd_of (w := .initialized "java/lang/Math") (by decide +kernel) rfl)) (hts _ (gd_of (w := .code Lib.MathLoose.max_long.x Lib.MathLoose.max_long.code 4 (some .long)) (by decide +kernel) rfl)) hf (cat_room hcat (by omega) hlo) hc hs hd (K H locs ls hR hL hS)
theorem sp_m_min (F : FX B o D ca h0 u p s m args meth c) {i : Nat} {x y : Int32} {r : List Value} (hd : decode (cM u) pc = .ok (.invokestatic i, 3)) (hmT : mT (owM u) i = some 9994) (hcat : catS r = true) (hf : 1 ≤ R.frames) (hlo : 50 ≤ R.locals) (hc : szA h - z0 ≤ R.cells) (hs : usA h - u0 ≤ R.slots) (K : WA p l e R s m args below meth c Q B o D ca h0 u z0 u0 (pc + 3, L, .int (if y < x then y else x) :: r, h)) : WA p l e R s m args below meth c Q B o D ca h0 u z0 u0 (pc, L, .int y :: .int x :: r, h) := by
  obtain ⟨hx, hb, hml, hown, hts, hin, hC, hB⟩ := F
  obtain ⟨pp, hw⟩ := wM hmT
  unfold mWc at hw
  simp only [if_neg (show (9994 : Nat) ≠ 9999 by decide), if_neg (show (9994 : Nat) ≠ 9998 by decide), if_neg (show (9994 : Nat) ≠ 9997 by decide), if_neg (show (9994 : Nat) ≠ 9990 by decide), if_neg (show (9994 : Nat) ≠ 9991 by decide), if_neg (show (9994 : Nat) ≠ 9992 by decide), if_neg (show (9994 : Nat) ≠ 9993 by decide), if_true] at hw
  intro H locs ls hR hL hS
  exact va_mmin hx hb (by rw [hml]; exact hL.1.symm) hown (hts _ (gd_of (inT_mem hw) rfl)) (hts _ (gd_of (w := .static Lib.Math.min.name) (by decide +kernel) rfl)) (hts _ (gd_of (w := .initialized "java/lang/Math") (by decide +kernel) rfl)) (hts _ (gd_of (w := .code Lib.Math.min.name Lib.Math.min.code 2 (some .int)) (by decide +kernel) rfl)) hf (cat_room hcat (by omega) hlo) hc hs hd (K H locs ls hR hL hS)
theorem sp_m_minJ (F : FX B o D ca h0 u p s m args meth c) {i : Nat} {x y : Int64} {r : List Value} (hd : decode (cM u) pc = .ok (.invokestatic i, 3)) (hmT : mT (owM u) i = some 9995) (hcat : catS r = true) (hf : 1 ≤ R.frames) (hlo : 50 ≤ R.locals) (hc : szA h - z0 ≤ R.cells) (hs : usA h - u0 ≤ R.slots) (K : WA p l e R s m args below meth c Q B o D ca h0 u z0 u0 (pc + 3, L, .long (if y < x then y else x) :: r, h)) : WA p l e R s m args below meth c Q B o D ca h0 u z0 u0 (pc, L, .long y :: .long x :: r, h) := by
  obtain ⟨hx, hb, hml, hown, hts, hin, hC, hB⟩ := F
  obtain ⟨pp, hw⟩ := wM hmT
  unfold mWc at hw
  simp only [if_neg (show (9995 : Nat) ≠ 9999 by decide), if_neg (show (9995 : Nat) ≠ 9998 by decide), if_neg (show (9995 : Nat) ≠ 9997 by decide), if_neg (show (9995 : Nat) ≠ 9990 by decide), if_neg (show (9995 : Nat) ≠ 9991 by decide), if_neg (show (9995 : Nat) ≠ 9992 by decide), if_neg (show (9995 : Nat) ≠ 9993 by decide), if_neg (show (9995 : Nat) ≠ 9994 by decide), if_true] at hw
  intro H locs ls hR hL hS
  exact va_mmin_long hx hb (by rw [hml]; exact hL.1.symm) hown (hts _ (gd_of (inT_mem hw) rfl)) (hts _ (gd_of (w := .static Lib.MathLoose.min_long.x) (by decide +kernel) rfl)) (hts _ (gd_of (w := .initialized "java/lang/Math") (by decide +kernel) rfl)) (hts _ (gd_of (w := .code Lib.MathLoose.min_long.x Lib.MathLoose.min_long.code 4 (some .long)) (by decide +kernel) rfl)) hf (cat_room hcat (by omega) hlo) hc hs hd (K H locs ls hR hL hS)
/-- Math.floorMod, as a row -/
def FMrow (p : Program) (l : Launch) (e : Env) (R : Room) (s : State) (m : MethodId) (args : Array Value) (below : List Frame) (meth : Method) (c : Code) (Q : State → Prop) (u : Nat) : Prop :=
  ∀ (pc i : Nat) (H : Heap) (locs : List Loc) (ls : Array Slot) (cells slots : Nat) (x y : Int32) (rest : List Value), decode (cM u) pc = .ok (.invokestatic i, 3) → mT (owM u) i = some 9990 → ¬ y = 0 → ls.size = mxM u → (rest.map fun v => v.category).sum ≤ 8 → cells ≤ R.cells → slots ≤ R.slots → W p l e R s m args below meth c H locs cells slots Q (F0 m (pc + 3) ls (.int (fmF x y) :: rest)) → W p l e R s m args below meth c H locs cells slots Q (F0 m pc ls (.int y :: .int x :: rest))
theorem sp_ins (F : FX B o D ca h0 u p s m args meth c) (hFM : FMrow p l e R s m args below meth c Q u) {i : Nat} (hd : decode (cM u) pc = .ok (.invokestatic i, 3)) (hm : ins (owM u) i (pc + 3) L S h = some (g, .inl (pc', L', S', h'))) (hg : allG g = true) (hf : 1 ≤ R.frames) (hlo : 50 ≤ R.locals) (hc : szA h - z0 ≤ R.cells) (hs : usA h - u0 ≤ R.slots) (K : WA p l e R s m args below meth c Q B o D ca h0 u z0 u0 (pc', L', S', h')) : WA p l e R s m args below meth c Q B o D ca h0 u z0 u0 (pc, L, S, h) := by
  unfold ins at hm
  split at hm
  · rename_i hmT
    split at hm
    · cases hm
      simp only [allG, Bool.and_true, Bool.and_eq_true, Bool.not_eq_true', decide_eq_true_eq, decide_eq_false_iff_not] at hg
      obtain ⟨g1, g2, g3, g4, g5, g6, g7, g8, g9⟩ := hg
      exact sp_copy F hd hmT g1 g2 g3 g4 g5 g6 g7 g8 g9 hf hlo K
    · cases hm
  · rename_i hmT
    split at hm
    · split at hm
      · rename_i hcat
        unfold nxtG at hm
        cases hm
        simp only [allG, Bool.and_true, Bool.not_eq_true', decide_eq_false_iff_not] at hg
        intro H locs ls hR hL hS
        exact hFM pc i H locs ls _ _ _ _ _ hd hmT hg hL.1 (by rw [cat_map]; exact catS_le hcat) hc hs (K H locs ls hR hL hS)
      · cases hm
    · cases hm
  · rename_i hmT
    split at hm
    · split at hm
      · rename_i hcat
        unfold nxt at hm
        cases hm
        exact sp_m_abs F hd hmT hcat hf hlo hc hs K
      · cases hm
    · cases hm
  · rename_i hmT
    unfold mthI at hm
    split at hm
    · split at hm
      · rename_i hcat
        unfold nxt at hm
        cases hm
        exact sp_m_max F hd hmT hcat hf hlo hc hs K
      · cases hm
    · cases hm
  · rename_i hmT
    unfold mthJ at hm
    split at hm
    · split at hm
      · rename_i hcat
        unfold nxt at hm
        cases hm
        exact sp_m_maxJ F hd hmT hcat hf hlo hc hs K
      · cases hm
    · cases hm
  · rename_i hmT
    unfold mthI at hm
    split at hm
    · split at hm
      · rename_i hcat
        unfold nxt at hm
        cases hm
        exact sp_m_min F hd hmT hcat hf hlo hc hs K
      · cases hm
    · cases hm
  · rename_i hmT
    unfold mthJ at hm
    split at hm
    · split at hm
      · rename_i hcat
        unfold nxt at hm
        cases hm
        exact sp_m_minJ F hd hmT hcat hf hlo hc hs K
      · cases hm
    · cases hm
  · split at hm
    · unfold cll at hm
      split at hm <;> cases hm
    · cases hm
  · cases hm
set_option maxHeartbeats 4000000 in
theorem step_next (F : FX B o D ca h0 u p s m args meth c) (hFM : FMrow p l e R s m args below meth c Q u) {i : Instr} {k : Nat} (hd : decode (cM u) pc = .ok (i, k)) (hk : okLen i k = true) (hq : ∀ j, i = .putfield j → ∀ f, fT (owM u) j = some f → f / 64 < 13 ∧ ((TC (f / 64) (f % 64)).2.2.2 = true → kdM u = 2 ∧ owM u = f / 64 ∧ (TC (f / 64) (f % 64)).1 = RC (f / 64)))
    (hm : mstep (owM u) (rtM u) i pc k L S h = some (g, .inl (pc', L', S', h'))) (hg : allG g = true) (hz0 : z0 ≤ szA h) (hu0 : u0 ≤ usA h) (hc : szA h' ≤ z0 + R.cells) (hs : usA h' ≤ u0 + R.slots) (hsz : szA h' < 1000000) (hf : 1 ≤ R.frames) (hlo : 50 ≤ R.locals)
    (K : WA p l e R s m args below meth c Q B o D ca h0 u z0 u0 (pc', L', S', h')) : WA p l e R s m args below meth c Q B o D ca h0 u z0 u0 (pc, L, S, h) := by
  obtain ⟨hx, hb, hml, hown, hts, hin, hC, hB⟩ := id F
  have hmono := mstep_sz hm
  change szA h ≤ szA h' ∧ usA h ≤ usA h' at hmono
  cases i
  case iadd =>
    obtain rfl : k = 1 := eq_of_beq hk
    exact sp_bI (fun _ _ _ _ _ _ _ _ kk => lv_iadd hx hb hd kk) hm K
  case isub =>
    obtain rfl : k = 1 := eq_of_beq hk
    exact sp_bI (fun _ _ _ _ _ _ _ _ kk => lv_isub hx hb hd kk) hm K
  case imul =>
    obtain rfl : k = 1 := eq_of_beq hk
    exact sp_bI (fun _ _ _ _ _ _ _ _ kk => lv_imul hx hb hd kk) hm K
  case iand =>
    obtain rfl : k = 1 := eq_of_beq hk
    exact sp_bI (fun _ _ _ _ _ _ _ _ kk => lv_iand hx hb hd kk) hm K
  case ior =>
    obtain rfl : k = 1 := eq_of_beq hk
    exact sp_bI (fun _ _ _ _ _ _ _ _ kk => lv_ior hx hb hd kk) hm K
  case ixor =>
    obtain rfl : k = 1 := eq_of_beq hk
    exact sp_bI (fun _ _ _ _ _ _ _ _ kk => lv_ixor hx hb hd kk) hm K
  case ishl =>
    obtain rfl : k = 1 := eq_of_beq hk
    exact sp_bI (fun _ _ _ _ _ _ _ _ kk => lv_ishl hx hb hd kk) hm K
  case ishr =>
    obtain rfl : k = 1 := eq_of_beq hk
    exact sp_bI (fun _ _ _ _ _ _ _ _ kk => lv_ishr hx hb hd kk) hm K
  case iushr =>
    obtain rfl : k = 1 := eq_of_beq hk
    exact sp_bI (fun _ _ _ _ _ _ _ _ kk => lv_iushr hx hb hd rfl kk) hm K
  case idiv =>
    obtain rfl : k = 1 := eq_of_beq hk
    exact sp_dI (fun _ _ _ _ _ _ _ _ hne kk => lv_idiv hx hb hd hne kk) hm hg K
  case irem =>
    obtain rfl : k = 1 := eq_of_beq hk
    exact sp_dI (fun _ _ _ _ _ _ _ _ hne kk => lv_irem hx hb hd hne kk) hm hg K
  case ladd =>
    obtain rfl : k = 1 := eq_of_beq hk
    exact sp_bJ (fun _ _ _ _ _ _ _ _ kk => lv_ladd hx hb hd kk) hm K
  case lsub =>
    obtain rfl : k = 1 := eq_of_beq hk
    exact sp_bJ (fun _ _ _ _ _ _ _ _ kk => lv_lsub hx hb hd kk) hm K
  case lmul =>
    obtain rfl : k = 1 := eq_of_beq hk
    exact sp_bJ (fun _ _ _ _ _ _ _ _ kk => lv_lmul hx hb hd kk) hm K
  case land =>
    obtain rfl : k = 1 := eq_of_beq hk
    exact sp_bJ (fun _ _ _ _ _ _ _ _ kk => lv_land hx hb hd kk) hm K
  case lor =>
    obtain rfl : k = 1 := eq_of_beq hk
    exact sp_bJ (fun _ _ _ _ _ _ _ _ kk => lv_lor hx hb hd kk) hm K
  case lxor =>
    obtain rfl : k = 1 := eq_of_beq hk
    exact sp_bJ (fun _ _ _ _ _ _ _ _ kk => lv_lxor hx hb hd kk) hm K
  case ldiv =>
    obtain rfl : k = 1 := eq_of_beq hk
    exact sp_dJ (fun _ _ _ _ _ _ _ _ hne kk => lv_ldiv hx hb hd hne kk) hm hg K
  case lrem =>
    obtain rfl : k = 1 := eq_of_beq hk
    exact sp_dJ (fun _ _ _ _ _ _ _ _ hne kk => lv_lrem hx hb hd hne kk) hm hg K
  case lshl =>
    obtain rfl : k = 1 := eq_of_beq hk
    exact sp_sJ (fun _ _ _ _ _ _ _ _ kk => lv_lshl hx hb hd rfl kk) hm K
  case lshr =>
    obtain rfl : k = 1 := eq_of_beq hk
    exact sp_sJ (fun _ _ _ _ _ _ _ _ kk => lv_lshr hx hb hd rfl kk) hm K
  case lushr =>
    obtain rfl : k = 1 := eq_of_beq hk
    exact sp_sJ (fun _ _ _ _ _ _ _ _ kk => lv_lushr hx hb hd rfl kk) hm K
  case ineg =>
    obtain rfl : k = 1 := eq_of_beq hk
    exact sp_uI (fun _ _ _ _ _ _ _ kk => lv_ineg hx hb hd kk) hm K
  case i2b =>
    obtain rfl : k = 1 := eq_of_beq hk
    exact sp_uI (fun _ _ _ _ _ _ _ kk => lv_i2b hx hb hd rfl kk) hm K
  case i2s =>
    obtain rfl : k = 1 := eq_of_beq hk
    exact sp_uI (fun _ _ _ _ _ _ _ kk => lv_i2s hx hb hd rfl kk) hm K
  case i2c =>
    obtain rfl : k = 1 := eq_of_beq hk
    exact sp_uI (fun _ _ _ _ _ _ _ kk => lv_i2c hx hb hd rfl kk) hm K
  case i2l =>
    obtain rfl : k = 1 := eq_of_beq hk
    simp only [mstep] at hm
    split at hm
    · exact sp_st (fun _ _ _ _ _ kk => lv_i2l hx hb hd rfl kk) hm K
    · cases hm
  case l2i =>
    obtain rfl : k = 1 := eq_of_beq hk
    simp only [mstep] at hm
    split at hm
    · exact sp_st (fun _ _ _ _ _ kk => lv_l2i hx hb hd rfl kk) hm K
    · cases hm
  case lcmp =>
    obtain rfl : k = 1 := eq_of_beq hk
    simp only [mstep] at hm
    split at hm
    · exact sp_st (fun _ _ _ _ _ kk => W.lcmp hx hb hd kk) hm K
    · cases hm
  case iconst z =>
    obtain rfl : k = 1 := eq_of_beq hk
    exact sp_st (fun _ _ _ _ _ kk => lv_iconst hx hb hd rfl kk) hm K
  case lconst z =>
    obtain rfl : k = 1 := eq_of_beq hk
    exact sp_st (fun _ _ _ _ _ kk => lv_lconst hx hb hd (by show Int64.ofNat _ = Int64.ofInt _; exact Int64.ofInt_eq_ofNat.symm) kk) hm K
  case aconst_null =>
    obtain rfl : k = 1 := eq_of_beq hk
    exact sp_st (fun _ _ _ _ _ kk => lv_null hx hb hd kk) hm K
  case bipush z =>
    obtain rfl : k = 2 := eq_of_beq hk
    exact sp_inJ (fun h1 h2 _ _ _ _ _ _ kk => lv_bipush hx hb hd (bip8 h1 h2) kk) hm K
  case sipush z =>
    obtain rfl : k = 3 := eq_of_beq hk
    exact sp_inJ (fun h1 h2 _ _ _ _ _ _ kk => lv_sipush hx hb hd (bip16 h1 h2) kk) hm K
  case iload j =>
    obtain rfl : k = 2 := eq_of_beq hk
    exact sp_ldI (fun _ _ _ _ _ _ _ hl kk => lv_iload hx hb hd hl kk) hm K
  case iload_n j =>
    obtain rfl : k = 1 := eq_of_beq hk
    exact sp_ldI (fun _ _ _ _ _ _ _ hl kk => lv_iload_n hx hb hd rfl hl kk) hm K
  case lload j =>
    obtain rfl : k = 2 := eq_of_beq hk
    exact sp_ldJ (fun _ _ _ _ _ _ _ hl kk => lv_lload hx hb hd hl kk) hm K
  case lload_n j =>
    obtain rfl : k = 1 := eq_of_beq hk
    exact sp_ldJ (fun _ _ _ _ _ _ _ hl kk => lv_lload_n hx hb hd rfl hl kk) hm K
  case aload j =>
    obtain rfl : k = 2 := eq_of_beq hk
    exact sp_ldR (fun _ _ _ _ _ _ _ hl kk => lv_aload hx hb hd hl kk) (fun _ _ _ _ _ _ hl kk => lv_aloadN hx hb hd hl kk) hm K
  case aload_n j =>
    obtain rfl : k = 1 := eq_of_beq hk
    exact sp_ldR (fun _ _ _ _ _ _ _ hl kk => lv_aload_n hx hb hd rfl hl kk) (fun _ _ _ _ _ _ hl kk => lv_aload_nN hx hb hd rfl hl kk) hm K
  case istore j =>
    obtain rfl : k = 2 := eq_of_beq hk
    exact sp_slI (fun _ _ _ _ _ _ _ _ _ h1 h2 h3 kk => lv_istore hx hb hd h1 h2 h3 kk) hm K
  case istore_n j =>
    obtain rfl : k = 1 := eq_of_beq hk
    exact sp_slI (fun _ _ _ _ _ _ _ _ _ h1 h2 h3 kk => lv_istore_n hx hb hd rfl h1 h2 h3 kk) hm K
  case lstore j =>
    obtain rfl : k = 2 := eq_of_beq hk
    exact sp_slJ (fun _ _ _ _ _ _ _ _ _ h1 h2 h3 kk => lv_lstore hx hb hd h1 h2 h3 kk) hm K
  case lstore_n j =>
    obtain rfl : k = 1 := eq_of_beq hk
    exact sp_slJ (fun _ _ _ _ _ _ _ _ _ h1 h2 h3 kk => lv_lstore_n hx hb hd rfl h1 h2 h3 kk) hm K
  case astore j =>
    obtain rfl : k = 2 := eq_of_beq hk
    exact sp_slR (fun _ _ _ _ _ _ _ _ _ h1 h2 h3 kk => lv_astore hx hb hd h1 h2 h3 kk) (fun _ _ _ _ _ _ _ _ h1 h2 h3 kk => lv_astoreN hx hb hd h1 h2 h3 kk) hm K
  case astore_n j =>
    obtain rfl : k = 1 := eq_of_beq hk
    exact sp_slR (fun _ _ _ _ _ _ _ _ _ h1 h2 h3 kk => lv_astore_n hx hb hd rfl h1 h2 h3 kk) (fun _ _ _ _ _ _ _ _ h1 h2 h3 kk => lv_astore_nN hx hb hd rfl h1 h2 h3 kk) hm K
  case iinc j z =>
    obtain rfl : k = 3 := eq_of_beq hk
    exact sp_icI (fun _ _ _ _ _ _ _ _ _ _ _ h1 h2 h3 h4 h5 kk => lv_iinc hx hb hd h1 h2 h3 h4 h5 kk) hm K
  case goto z =>
    obtain rfl : k = 3 := eq_of_beq hk
    exact sp_jmp (fun _ _ _ _ _ _ _ ht kk => lv_goto hx hb hd ht kk) hm K
  case dup =>
    obtain rfl : k = 1 := eq_of_beq hk
    simp only [mstep] at hm
    split at hm
    · split at hm
      · rename_i hcat
        exact sp_st (fun _ _ _ _ _ kk => lv_dup hx hb hd (by rw [tV_cat]; exact eq_of_beq hcat) kk) hm K
      · cases hm
    · cases hm
  case pop =>
    obtain rfl : k = 1 := eq_of_beq hk
    simp only [mstep] at hm
    split at hm
    · split at hm
      · rename_i hcat
        exact sp_st (fun _ _ _ _ _ kk => lv_pop hx hb hd (by rw [tV_cat]; exact eq_of_beq hcat) kk) hm K
      · cases hm
    · cases hm
  case dup2 =>
    obtain rfl : k = 1 := eq_of_beq hk
    simp only [mstep] at hm
    split at hm
    · split at hm
      · rename_i hcat hcat2
        exact sp_st (fun _ _ _ _ _ kk => lv_dup2_11 hx hb hd (by rw [tV_cat]; exact eq_of_beq hcat) (by rw [tV_cat]; exact eq_of_beq hcat2) kk) hm K
      · cases hm
    · cases hm
  case pop2 =>
    obtain rfl : k = 1 := eq_of_beq hk
    simp only [mstep] at hm
    split at hm
    · exact sp_st (fun _ _ _ _ _ kk => lv_pop2_2 hx hb hd rfl kk) hm K
    · cases hm
  case getfield j =>
    obtain rfl : k = 3 := eq_of_beq hk
    exact sp_gfR F hd hm hg K
  case putfield j =>
    obtain rfl : k = 3 := eq_of_beq hk
    exact sp_pfR F hd (hq j rfl) hm hg K
  case getstatic j =>
    obtain rfl : k = 3 := eq_of_beq hk
    exact sp_gsR F hd hm K
  case iaload =>
    obtain rfl : k = 1 := eq_of_beq hk
    exact sp_iald F hd hm hg K
  case baload =>
    obtain rfl : k = 1 := eq_of_beq hk
    exact sp_bald F hd hm hg K
  case saload =>
    obtain rfl : k = 1 := eq_of_beq hk
    exact sp_sald F hd hm hg K
  case laload =>
    obtain rfl : k = 1 := eq_of_beq hk
    exact sp_lald F hd hm hg K
  case aaload =>
    obtain rfl : k = 1 := eq_of_beq hk
    exact sp_aald F hd hm hg K
  case arraylength =>
    obtain rfl : k = 1 := eq_of_beq hk
    exact sp_alen F hd hm hg K
  case iastore =>
    obtain rfl : k = 1 := eq_of_beq hk
    exact sp_iast F hd hm hg K
  case bastore =>
    obtain rfl : k = 1 := eq_of_beq hk
    exact sp_bast F hd hm hg K
  case sastore =>
    obtain rfl : k = 1 := eq_of_beq hk
    exact sp_sast F hd hm hg K
  case lastore =>
    obtain rfl : k = 1 := eq_of_beq hk
    exact sp_last F hd hm hg K
  case aastore =>
    obtain rfl : k = 1 := eq_of_beq hk
    exact sp_aast F hd hm hg K
  case new j =>
    obtain rfl : k = 3 := eq_of_beq hk
    exact sp_new F hd hm hz0 hu0 hc hs hsz K
  case newarray t =>
    obtain rfl : k = 2 := eq_of_beq hk
    exact sp_newaP F hd hm hg hz0 hu0 hc hs hsz K
  case anewarray j =>
    obtain rfl : k = 3 := eq_of_beq hk
    exact sp_anew F hd hm hg hz0 hu0 hc hs hsz K
  case invokestatic j =>
    obtain rfl : k = 3 := eq_of_beq hk
    exact sp_ins F hFM hd hm hg hf hlo (by omega) (by omega) K
  case invokevirtual j =>
    obtain rfl : k = 3 := eq_of_beq hk
    simp only [mstep, inv] at hm
    split at hm
    · rename_i hmT
      split at hm
      · split at hm
        · rename_i hcat
          unfold nxtG at hm
          cases hm
          simp only [allG, Bool.and_true, decide_eq_true_eq] at hg
          exact sp_clone F hd hmT hcat hg hf hlo hz0 hu0 hc hs hsz K
        · cases hm
      · cases hm
    · split at hm
      · split at hm
        · unfold cll at hm
          split at hm <;> cases hm
        · cases hm
      · cases hm
    · cases hm
  case invokespecial j =>
    obtain rfl : k = 3 := eq_of_beq hk
    simp only [mstep, isp] at hm
    split at hm
    · rename_i hmT
      split at hm
      · split at hm
        · rename_i hcat
          unfold nxtG at hm
          cases hm
          simp only [allG, Bool.and_true, Bool.not_eq_true', decide_eq_false_iff_not] at hg
          exact sp_oinit F hd hmT hcat hf hlo hg K
        · cases hm
      · cases hm
    · split at hm
      · split at hm
        · unfold cll at hm
          split at hm <;> cases hm
        · cases hm
      · cases hm
    · cases hm
  case checkcast j =>
    obtain rfl : k = 3 := eq_of_beq hk
    simp only [mstep] at hm
    split at hm
    · rename_i x r hcT
      unfold nxtG at hm
      cases hm
      simp only [allG, Bool.and_true, decide_eq_true_eq] at hg
      obtain ⟨pp, hw⟩ := wC hcT
      unfold cWc at hw
      rw [if_pos rfl] at hw
      intro H locs ls hR hL hS
      obtain ⟨hxa, e1, hcell⟩ := own_arr hR hg (Or.inl rfl)
      have hK := K H locs ls hR hL hS
      simp only [List.map_cons, e1] at hK ⊢
      have hP : va_P D vwCl [(B + (x - 1), .inl (ca 20, (lnA h x, .inl (ivA h x))))] H := by
        intro k q hq
        cases k with
        | zero => cases hq; exact hcell
        | succ k => cases hq
      exact va_castA hx hb hown (hts _ (gd_of (inT_mem hw) rfl)) hP 0 rfl hC.2.1 hd hK
    · cases hm
  case ldc j =>
    obtain rfl : k = 2 := eq_of_beq hk
    simp only [mstep] at hm
    split at hm
    · rename_i z hkT
      obtain ⟨pp, hw⟩ := wK hkT
      exact sp_st (fun _ _ _ _ _ kk => lv_ldc hx hb hown (hts _ (gd_of (inT_mem hw) rfl)) hd kk) hm K
    · split at hm
      · rename_i t hsT
        unfold nxt at hm
        cases hm
        obtain ⟨tx, hr⟩ := hC.2.2.2.2.2.2.2.1 _ _ _ hsT
        intro H locs ls hR hL hS
        have hK := K H locs ls hR hL hS
        simp only [List.map_cons, tV_r B o (show 1000001 + t ≠ 0 by omega), adA_out B o (show 1000000 ≤ 1000001 + t by omega)] at hK
        exact va_ldcS hx hb hown hr hd hK
      · cases hm
  case ldc_w j =>
    obtain rfl : k = 3 := eq_of_beq hk
    simp only [mstep] at hm
    split at hm
    · rename_i z hkT
      obtain ⟨pp, hw⟩ := wK hkT
      exact sp_st (fun _ _ _ _ _ kk => lv_ldcw hx hb hown (hts _ (gd_of (inT_mem hw) rfl)) hd kk) hm K
    · cases hm
  case ldc2_w j =>
    obtain rfl : k = 3 := eq_of_beq hk
    simp only [mstep] at hm
    split at hm
    · rename_i z hkT
      obtain ⟨pp, hw⟩ := wJ hkT
      exact sp_st (fun _ _ _ _ _ kk => lv_ldc2 hx hb hown (hts _ (gd_of (inT_mem hw) rfl)) hd kk) hm K
    · cases hm
  all_goals first
    | (cases hm; done)
    | (simp only [mstep, brn, brnG, swM, rtI] at hm; (repeat' (split at hm)) <;> cases hm; done)
end STP
