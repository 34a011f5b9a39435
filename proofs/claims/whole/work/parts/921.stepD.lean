/-! arrays, new cells -/
theorem cell_stI (cA : ClassId) (n : Nat) (h : AH) (x k : Nat) (v : Int32) : (vp_cell cA (n, .inl (ivA h x))).setSlot k (.int v) = vp_cell cA (n, .inl (ivA (stI h x k v) x)) := by
  rw [vp_cell_i, vp_cell_i, arrV_store]
  congr 1
  funext j
  unfold updV
  rw [stI_i]
  by_cases e : j = k
  · rw [if_pos e, if_pos ⟨rfl, e⟩]
  · rw [if_neg e, if_neg (fun q => e q.2)]
theorem cell_stJ (cA : ClassId) (n : Nat) (h : AH) (x k : Nat) (v : Int64) : (vp_cell cA (n, .inr (.inl (jvA h x)))).setSlot k (.long v) = vp_cell cA (n, .inr (.inl (jvA (stJ h x k v) x))) := by
  rw [vp_cell_l, vp_cell_l, arrV_store]
  congr 1
  funext j
  unfold updV
  rw [stJ_j]
  by_cases e : j = k
  · rw [if_pos e, if_pos ⟨rfl, e⟩]
  · rw [if_neg e, if_neg (fun q => e q.2)]
theorem cell_stR (B : Nat) (o : Nat → Nat) (cA : ClassId) (n : Nat) (h : AH) (x k v : Nat) : (vp_cell cA (n, .inr (.inr (.inr (.inr (fun j => tN B o (rvA h x j))))))).setSlot k (va_rf (tN B o v)) = vp_cell cA (n, .inr (.inr (.inr (.inr (fun j => tN B o (rvA (stR h x k v) x j)))))) := by
  rw [vp_cell_q, vp_cell_q, arrV_store]
  congr 1
  funext j
  unfold updV
  rw [stR_r]
  by_cases e : j = k
  · rw [if_pos e, if_pos ⟨rfl, e⟩]
  · rw [if_neg e, if_neg (fun q => e q.2)]
section STP
variable {p : Program} {l : Launch} {e : Env} {R : Room} {s : State} {m : MethodId} {args : Array Value} {below : List Frame} {meth : Method} {c : Code} {Q : State → Prop} {B : Nat} {o : Nat → Nat} {D : va_G} {ca : Nat → ClassId} {h0 : AH} {u z0 u0 : Nat} {pc pc' : Nat} {L L' S S' : List Value} {h h' : AH} {g : List Bool} {H : Heap} {locs : List Loc}
theorem rdI (hC : Ctx B o D ca h0 s) (hR : HR B o D ca h0 h H) (hS : va_S (owA B) s.heap H locs) {x t : Nat} {ty : FieldType} (hk : kdA h x = t) (ht : (t = 20 ∧ ty = .int) ∨ (t = 40 ∧ ty = .int) ∨ (t = 22 ∧ ty = .byte) ∨ (t = 42 ∧ ty = .byte) ∨ (t = 23 ∧ ty = .short) ∨ (t = 24 ∧ ty = .boolean)) :
    ∃ (a : Nat) (cell : Cell), tV B o (.ref x) = .ref a ∧ H[a]? = some cell ∧ s.isArrayOf cell ty ∧ cell.vm ≠ .unknown ∧ lnA h x ≤ cell.slots.size ∧ cell.slots.size.toInt32 = Int32.ofNat (lnA h x) ∧ ∀ j, j < lnA h x → cell.slots[j]? = some (.int (ivA h x j)) := by
  have own : ∀ t0 : Nat, (t = 20 ∨ t = 22 ∨ t = 23 ∨ t = 24) → (tysA ca)[t0]? = some (ca t, ty) → ∃ (a : Nat) (cell : Cell), tV B o (.ref x) = .ref a ∧ H[a]? = some cell ∧ s.isArrayOf cell ty ∧ cell.vm ≠ .unknown ∧ lnA h x ≤ cell.slots.size ∧ cell.slots.size.toInt32 = Int32.ofNat (lnA h x) ∧ ∀ j, j < lnA h x → cell.slots[j]? = some (.int (ivA h x j)) := by
    intro t0 ht ht0
    obtain ⟨-, h2, h3⟩ := own_arr hR hk ht
    refine ⟨_, _, h2, h3, (hC.1.2 t0 _ ht0).1 _ _, (fun q => by cases q), ?_, ?_, ?_⟩
    · rw [vp_cell_i, arrV_size]; exact Nat.le_refl _
    · rw [vp_cell_i, arrV_size]
    · intro j hj
      rw [vp_cell_i, arrV_read _ _ hj]
  have out : 1000000 ≤ x → va_T ty (o x) (lnA h0 x) (fun j => .int (ivA h0 x j)) (owA B) s s.heap → ∃ (a : Nat) (cell : Cell), tV B o (.ref x) = .ref a ∧ H[a]? = some cell ∧ s.isArrayOf cell ty ∧ cell.vm ≠ .unknown ∧ lnA h x ≤ cell.slots.size ∧ cell.slots.size.toInt32 = Int32.ofNat (lnA h x) ∧ ∀ j, j < lnA h x → cell.slots[j]? = some (.int (ivA h x j)) := by
    intro hx hT
    obtain ⟨o1, o2, o3, o4⟩ := hR.2.2.2 x hx
    obtain ⟨cell, q1, q2, q3, q4, q5, q6, -⟩ := hT.kept hS.2.1
    refine ⟨o x, cell, by rw [tV_r B o (by omega), adA_out B o hx], q1, q2, q3, by rw [o2]; exact q4, by rw [o2]; exact q5, fun j hj => ?_⟩
    rw [o2] at hj
    rw [q6 j hj, o3]
  rcases ht with ⟨rfl, rfl⟩ | ⟨rfl, rfl⟩ | ⟨rfl, rfl⟩ | ⟨rfl, rfl⟩ | ⟨rfl, rfl⟩ | ⟨rfl, rfl⟩
  · exact own 0 (Or.inl rfl) rfl
  · have hx := hR.2.2.1.2.1 x (Or.inr (Or.inl hk))
    exact out hx (hC.2.2.1 x hx (by rw [← (hR.2.2.2 x hx).1]; exact hk))
  · exact own 2 (Or.inr (Or.inl rfl)) rfl
  · have hx := hR.2.2.1.2.1 x (Or.inr (Or.inr hk))
    exact out hx (hC.2.2.2.1 x hx (by rw [← (hR.2.2.2 x hx).1]; exact hk))
  · exact own 3 (Or.inr (Or.inr (Or.inl rfl))) rfl
  · exact own 4 (Or.inr (Or.inr (Or.inr rfl))) rfl
theorem inB_sz {i : Int32} {n k : Nat} (h : inB i n = true) (hk : n ≤ k) : ¬ (i < 0 ∨ k ≤ i.toNatClampNeg) := by
  have := inB_in h
  rintro (h1 | h1)
  · exact this (Or.inl h1)
  · exact this (Or.inr (by omega))
theorem inB_lt {i : Int32} {n : Nat} (h : inB i n = true) : ix i < n := Nat.lt_of_not_le (fun q => inB_in h (Or.inr q))
theorem sp_iald (F : FX B o D ca h0 u p s m args meth c) (hd : decode (cM u) pc = .ok (.iaload, 1)) (hm : alI (fun t => decide (t = 20) || decide (t = 40)) (pc + 1) L S h = some (g, .inl (pc', L', S', h'))) (hg : allG g = true) (K : WA p l e R s m args below meth c Q B o D ca h0 u z0 u0 (pc', L', S', h')) : WA p l e R s m args below meth c Q B o D ca h0 u z0 u0 (pc, L, S, h) := by
  unfold alI at hm
  split at hm
  · rename_i i a r
    cases hm
    simp only [allG, Bool.and_true, Bool.and_eq_true, Bool.or_eq_true, decide_eq_true_eq] at hg
    intro H locs ls hR hL hS
    obtain ⟨ad, cell, e1, e2, e3, e4, e5, e6, e7⟩ := rdI F.2.2.2.2.2.2.1 hR hS (t := kdA h a) (ty := .int) rfl (by rcases hg.1 with hh | hh <;> simp [hh])
    show W p l e R s m args below meth c H locs _ _ Q (F0 m pc ls (.int i :: tV B o (.ref a) :: r.map (tV B o)))
    rw [e1]
    exact W.iald F.1 F.2.1 e2 e3 e4 (inB_sz hg.2 e5) (e7 _ (inB_lt hg.2)) rfl rfl hd (K H locs ls hR hL hS)
  · cases hm
theorem sp_sald (F : FX B o D ca h0 u p s m args meth c) (hd : decode (cM u) pc = .ok (.saload, 1)) (hm : alI (fun t => decide (t = 23)) (pc + 1) L S h = some (g, .inl (pc', L', S', h'))) (hg : allG g = true) (K : WA p l e R s m args below meth c Q B o D ca h0 u z0 u0 (pc', L', S', h')) : WA p l e R s m args below meth c Q B o D ca h0 u z0 u0 (pc, L, S, h) := by
  unfold alI at hm
  split at hm
  · rename_i i a r
    cases hm
    simp only [allG, Bool.and_true, Bool.and_eq_true, Bool.or_eq_true, decide_eq_true_eq] at hg
    intro H locs ls hR hL hS
    obtain ⟨ad, cell, e1, e2, e3, e4, e5, e6, e7⟩ := rdI F.2.2.2.2.2.2.1 hR hS (t := kdA h a) (ty := .short) rfl (by simp [hg.1])
    show W p l e R s m args below meth c H locs _ _ Q (F0 m pc ls (.int i :: tV B o (.ref a) :: r.map (tV B o)))
    rw [e1]
    exact W.sald F.1 F.2.1 e2 e3 e4 (inB_sz hg.2 e5) (e7 _ (inB_lt hg.2)) rfl rfl hd (K H locs ls hR hL hS)
  · cases hm
theorem sp_bald (F : FX B o D ca h0 u p s m args meth c) (hd : decode (cM u) pc = .ok (.baload, 1)) (hm : alI (fun t => decide (t = 22) || decide (t = 24) || decide (t = 42)) (pc + 1) L S h = some (g, .inl (pc', L', S', h'))) (hg : allG g = true) (K : WA p l e R s m args below meth c Q B o D ca h0 u z0 u0 (pc', L', S', h')) : WA p l e R s m args below meth c Q B o D ca h0 u z0 u0 (pc, L, S, h) := by
  unfold alI at hm
  split at hm
  · rename_i i a r
    cases hm
    simp only [allG, Bool.and_true, Bool.and_eq_true, Bool.or_eq_true, decide_eq_true_eq] at hg
    intro H locs ls hR hL hS
    show W p l e R s m args below meth c H locs _ _ Q (F0 m pc ls (.int i :: tV B o (.ref a) :: r.map (tV B o)))
    by_cases hb : kdA h a = 24
    · obtain ⟨ad, cell, e1, e2, e3, e4, e5, e6, e7⟩ := rdI F.2.2.2.2.2.2.1 hR hS (t := kdA h a) (ty := .boolean) rfl (by simp [hb])
      rw [e1]
      exact W.zald F.1 F.2.1 e2 e3 e4 (inB_sz hg.2 e5) (e7 _ (inB_lt hg.2)) rfl rfl hd (K H locs ls hR hL hS)
    · obtain ⟨ad, cell, e1, e2, e3, e4, e5, e6, e7⟩ := rdI F.2.2.2.2.2.2.1 hR hS (t := kdA h a) (ty := .byte) rfl (by rcases hg.1 with (hh | hh) | hh; exact Or.inr (Or.inr (Or.inl ⟨hh, rfl⟩)); exact absurd hh hb; exact Or.inr (Or.inr (Or.inr (Or.inl ⟨hh, rfl⟩))))
      rw [e1]
      exact W.bald F.1 F.2.1 e2 e3 e4 (inB_sz hg.2 e5) (e7 _ (inB_lt hg.2)) rfl rfl hd (K H locs ls hR hL hS)
  · cases hm
theorem sp_lald (F : FX B o D ca h0 u p s m args meth c) (hd : decode (cM u) pc = .ok (.laload, 1)) (hm : alJ (pc + 1) L S h = some (g, .inl (pc', L', S', h'))) (hg : allG g = true) (K : WA p l e R s m args below meth c Q B o D ca h0 u z0 u0 (pc', L', S', h')) : WA p l e R s m args below meth c Q B o D ca h0 u z0 u0 (pc, L, S, h) := by
  unfold alJ at hm
  split at hm
  · rename_i i a r
    cases hm
    simp only [allG, Bool.and_true, Bool.and_eq_true, decide_eq_true_eq] at hg
    intro H locs ls hR hL hS
    obtain ⟨-, e1, e2⟩ := own_arrJ hR hg.1
    show W p l e R s m args below meth c H locs _ _ Q (F0 m pc ls (.int i :: tV B o (.ref a) :: r.map (tV B o)))
    rw [e1]
    exact W.lald (v := .long (jvA h a (ix i))) F.1 F.2.1 e2 ((F.2.2.2.2.2.2.1.1.2 1 _ rfl).1 _ _) (fun q => by cases q) (by rw [vp_cell_l, arrV_size]; exact inB_in hg.2) (by rw [vp_cell_l, arrV_read _ _ (inB_lt hg.2)]) rfl rfl hd (K H locs ls hR hL hS)
  · cases hm
theorem tys_ref {t : Nat} (ht : 30 ≤ t ∧ t ≤ 33) : ∃ (t0 : Nat), (tysA ca)[t0]? = some (ca t, .object (RC (akC t))) ∧ akC t < 13 := by
  have h2 : t = 30 ∨ t = 31 ∨ t = 32 ∨ t = 33 := by omega
  rcases h2 with rfl | rfl | rfl | rfl
  · exact ⟨5, rfl, by decide⟩
  · exact ⟨6, rfl, by decide⟩
  · exact ⟨7, rfl, by decide⟩
  · exact ⟨8, rfl, by decide⟩
theorem sp_aald (F : FX B o D ca h0 u p s m args meth c) (hd : decode (cM u) pc = .ok (.aaload, 1)) (hm : alR (pc + 1) L S h = some (g, .inl (pc', L', S', h'))) (hg : allG g = true) (K : WA p l e R s m args below meth c Q B o D ca h0 u z0 u0 (pc', L', S', h')) : WA p l e R s m args below meth c Q B o D ca h0 u z0 u0 (pc, L, S, h) := by
  unfold alR at hm
  split at hm
  · rename_i i a r
    cases hm
    simp only [allG, Bool.and_true, Bool.and_eq_true, decide_eq_true_eq] at hg
    intro H locs ls hR hL hS
    obtain ⟨-, e1, e2⟩ := own_arrR hR (t := kdA h a) rfl ⟨hg.1, hg.2.1⟩
    obtain ⟨t0, ht0, -⟩ := tys_ref (ca := ca) ⟨hg.1, hg.2.1⟩
    show W p l e R s m args below meth c H locs _ _ Q (F0 m pc ls (.int i :: tV B o (.ref a) :: r.map (tV B o)))
    rw [e1]
    exact W.aald (v := va_rf (tN B o (rvA h a (ix i)))) F.1 F.2.1 e2 ((F.2.2.2.2.2.2.1.1.2 t0 _ ht0).1 _ _) rfl (fun q => by cases q) (by rw [vp_cell_q, arrV_size]; exact inB_in hg.2.2) (by rw [vp_cell_q, arrV_read _ _ (inB_lt hg.2.2)]) rfl rfl hd (K H locs ls hR hL hS)
  · cases hm
theorem sp_alen (F : FX B o D ca h0 u p s m args meth c) (hd : decode (cM u) pc = .ok (.arraylength, 1)) (hm : lnR (pc + 1) L S h = some (g, .inl (pc', L', S', h'))) (hg : allG g = true) (K : WA p l e R s m args below meth c Q B o D ca h0 u z0 u0 (pc', L', S', h')) : WA p l e R s m args below meth c Q B o D ca h0 u z0 u0 (pc, L, S, h) := by
  unfold lnR nxtG at hm
  split at hm
  · rename_i a r
    cases hm
    simp only [allG, isA, Bool.and_true, Bool.and_eq_true, Bool.or_eq_true, decide_eq_true_eq] at hg
    intro H locs ls hR hL hS
    show W p l e R s m args below meth c H locs _ _ Q (F0 m pc ls (tV B o (.ref a) :: r.map (tV B o)))
    have hK : W p l e R s m args below meth c H locs (szA h - z0) (usA h - u0) Q (F0 m (pc + 1) ls (.int (Int32.ofNat (lnA h a)) :: r.map (tV B o))) := by
      rw [← kI_nat]
      exact K H locs ls hR hL hS
    by_cases h21 : kdA h a = 21
    · obtain ⟨-, e1, e2⟩ := own_arrJ hR h21
      rw [e1]
      exact W.alen (n := Int32.ofNat (lnA h a)) F.1 F.2.1 e2 ((F.2.2.2.2.2.2.1.1.2 1 _ rfl).1 _ _) (by rw [vp_cell_l, arrV_size]) rfl rfl hd hK
    · by_cases hr : 30 ≤ kdA h a ∧ kdA h a ≤ 33
      · obtain ⟨-, e1, e2⟩ := own_arrR hR (t := kdA h a) rfl hr
        obtain ⟨t0, ht0, -⟩ := tys_ref (ca := ca) hr
        rw [e1]
        exact W.alen (n := Int32.ofNat (lnA h a)) F.1 F.2.1 e2 ((F.2.2.2.2.2.2.1.1.2 t0 _ ht0).1 _ _) (by rw [vp_cell_q, arrV_size]) rfl rfl hd hK
      · have h3 : ∃ ty, (kdA h a = 20 ∧ ty = FieldType.int) ∨ (kdA h a = 40 ∧ ty = .int) ∨ (kdA h a = 22 ∧ ty = .byte) ∨ (kdA h a = 42 ∧ ty = .byte) ∨ (kdA h a = 23 ∧ ty = .short) ∨ (kdA h a = 24 ∧ ty = .boolean) := by
          have h4 : kdA h a = 20 ∨ kdA h a = 40 ∨ kdA h a = 22 ∨ kdA h a = 42 ∨ kdA h a = 23 ∨ kdA h a = 24 := by omega
          rcases h4 with h4 | h4 | h4 | h4 | h4 | h4
          · exact ⟨.int, by simp [h4]⟩
          · exact ⟨.int, by simp [h4]⟩
          · exact ⟨.byte, by simp [h4]⟩
          · exact ⟨.byte, by simp [h4]⟩
          · exact ⟨.short, by simp [h4]⟩
          · exact ⟨.boolean, by simp [h4]⟩
        obtain ⟨ty, h3⟩ := h3
        obtain ⟨ad, cell, e1, e2, e3, e4, e5, e6, e7⟩ := rdI F.2.2.2.2.2.2.1 hR hS (t := kdA h a) (ty := ty) rfl h3
        rw [e1]
        exact W.alen (n := Int32.ofNat (lnA h a)) F.1 F.2.1 e2 e3 e6 rfl rfl hd hK
  · cases hm
end STP
