/-! stores into fields, arrays -/
theorem kI_nat (n : Nat) : kI (n : Int) = Int32.ofNat n := by
  show Int32.ofInt (n : Int) = Int32.ofNat n
  exact Int32.ofInt_eq_ofNat
theorem stI_i (h : AH) (a k : Nat) (x : Int32) (b j : Nat) : ivA (stI h a k x) b j = if b = a ∧ j = k then x else ivA h b j := rfl
theorem stJ_j (h : AH) (a k : Nat) (x : Int64) (b j : Nat) : jvA (stJ h a k x) b j = if b = a ∧ j = k then x else jvA h b j := rfl
theorem stR_r (h : AH) (a k x b j : Nat) : rvA (stR h a k x) b j = if b = a ∧ j = k then x else rvA h b j := rfl
theorem fdV_stI {B : Nat} {o : Nat → Nat} {h : AH} {x c k j : Nat} {v : Int32} (h1 : fK c k ≠ 1) (h2 : fK c k ≠ 2) : fdV B o (stI h x k v) x c j = if j = k then .int v else fdV B o h x c j := by
  unfold fdV
  by_cases e : j = k
  · subst e
    rw [if_pos rfl]
    split
    · rename_i hh; exact absurd hh h1
    · rename_i hh; exact absurd hh h2
    · rw [stI_i, if_pos ⟨rfl, rfl⟩]
  · rw [if_neg e]
    split
    · rfl
    · rfl
    · rw [stI_i, if_neg (fun q => e q.2)]
theorem fdV_stJ {B : Nat} {o : Nat → Nat} {h : AH} {x c k j : Nat} {v : Int64} (h1 : fK c k = 1) : fdV B o (stJ h x k v) x c j = if j = k then .long v else fdV B o h x c j := by
  unfold fdV
  by_cases e : j = k
  · subst e
    rw [if_pos rfl, h1]
    show Value.long (jvA (stJ h x j v) x j) = _
    rw [stJ_j, if_pos ⟨rfl, rfl⟩]
  · rw [if_neg e]
    split
    · rw [stJ_j, if_neg (fun q => e q.2)]
    · rfl
    · rfl
theorem fdV_stR {B : Nat} {o : Nat → Nat} {h : AH} {x c k j v : Nat} (h1 : fK c k = 2) : fdV B o (stR h x k v) x c j = if j = k then va_rf (tN B o v) else fdV B o h x c j := by
  unfold fdV
  by_cases e : j = k
  · subst e
    rw [if_pos rfl, h1]
    show va_rf (tN B o (rvA (stR h x j v) x j)) = _
    rw [stR_r, if_pos ⟨rfl, rfl⟩]
  · rw [if_neg e]
    split
    · rfl
    · rw [stR_r, if_neg (fun q => e q.2)]
    · rfl
theorem isB_spec {v : Int32} (h : isB v = true) : v = 0 ∨ v = 1 := by
  unfold isB at h
  simpa using h
theorem nar_bool {v : Int32} (h : isB v = true) : narrow .boolean (.int v) = .int v ∧ fits .boolean (.int v) = true ∧ v.toInt8.toInt32 = v := by
  rcases isB_spec h with rfl | rfl <;> exact ⟨by decide, by decide, by decide⟩
section STP
variable {p : Program} {l : Launch} {e : Env} {R : Room} {s : State} {m : MethodId} {args : Array Value} {below : List Frame} {meth : Method} {c : Code} {Q : State → Prop} {B : Nat} {o : Nat → Nat} {D : va_G} {ca : Nat → ClassId} {h0 : AH} {u z0 u0 : Nat} {pc pc' : Nat} {L L' S S' : List Value} {h h' : AH} {g : List Bool}
theorem sp_pfR (F : FX B o D ca h0 u p s m args meth c) {i : Nat} (hd : decode (cM u) pc = .ok (.putfield i, 3)) (hq : ∀ f, fT (owM u) i = some f → f / 64 < 13 ∧ ((TC (f / 64) (f % 64)).2.2.2 = true → kdM u = 2 ∧ owM u = f / 64 ∧ (TC (f / 64) (f % 64)).1 = RC (f / 64)))
    (hm : pfR (owM u) i (pc + 3) L S h = some (g, .inl (pc', L', S', h'))) (hg : allG g = true) (K : WA p l e R s m args below meth c Q B o D ca h0 u z0 u0 (pc', L', S', h')) : WA p l e R s m args below meth c Q B o D ca h0 u z0 u0 (pc, L, S, h) := by
  unfold pfR nxtG at hm
  have kk : ∀ f, fT (owM u) i = some f → f / 64 < 13 → tyKd (tyC (f / 64) (f % 64)) = fK (f / 64) (f % 64) := by
    intro f hf hc
    obtain ⟨pp, hw⟩ := wF hf
    unfold fWc at hw
    rw [if_pos hc, Bool.and_eq_true, decide_eq_true_eq] at hw
    exact tyKd_ok _ hc _ hw.2
  split at hm
  · rename_i f v x r hf
    obtain ⟨hc, hfin⟩ := hq f hf
    have hty := kk f hf hc
    split at hm
    · rename_i hK
      cases hm
      simp only [allG, Bool.and_true, decide_eq_true_eq] at hg
      rw [hK] at hty
      intro H locs ls hR hL hS
      exact pf_core (h' := stI h x (f % 64) v) F hd hf hc hfin hg (v := .int v) (by rw [ty_int hty]; rfl) (by rw [ty_int hty]; rfl) rfl (fun _ => rfl) (fun _ => rfl) (fun y hy k => by rw [stI_i, if_neg (fun q => hy q.1)]) (fun _ _ _ => rfl) (fun _ _ _ => rfl) (fun j _ => fdV_stI (by rw [hK]; decide) (by rw [hK]; decide)) hR hS (fun H' locs' hR' hS' => K H' locs' ls hR' hL hS')
    · rename_i hK
      cases hm
      simp only [allG, Bool.and_true, Bool.and_eq_true, decide_eq_true_eq] at hg
      rw [hK] at hty
      obtain ⟨n1, n2, -⟩ := nar_bool hg.2
      intro H locs ls hR hL hS
      exact pf_core (h' := stI h x (f % 64) v) F hd hf hc hfin hg.1 (v := .int v) (by rw [ty_bool hty]; exact n1) (by rw [ty_bool hty]; exact n2) rfl (fun _ => rfl) (fun _ => rfl) (fun y hy k => by rw [stI_i, if_neg (fun q => hy q.1)]) (fun _ _ _ => rfl) (fun _ _ _ => rfl) (fun j _ => fdV_stI (by rw [hK]; decide) (by rw [hK]; decide)) hR hS (fun H' locs' hR' hS' => K H' locs' ls hR' hL hS')
    · cases hm
  · rename_i f v x r hf
    obtain ⟨hc, hfin⟩ := hq f hf
    have hty := kk f hf hc
    split at hm
    · rename_i hK
      cases hm
      simp only [allG, Bool.and_true, decide_eq_true_eq] at hg
      rw [hK] at hty
      intro H locs ls hR hL hS
      exact pf_core (h' := stJ h x (f % 64) v) F hd hf hc hfin hg (v := .long v) (by rw [ty_long hty]; rfl) (by rw [ty_long hty]; rfl) rfl (fun _ => rfl) (fun _ => rfl) (fun _ _ _ => rfl) (fun y hy k => by rw [stJ_j, if_neg (fun q => hy q.1)]) (fun _ _ _ => rfl) (fun j _ => fdV_stJ hK) hR hS (fun H' locs' hR' hS' => K H' locs' ls hR' hL hS')
    · cases hm
  · rename_i f v x r hf
    obtain ⟨hc, hfin⟩ := hq f hf
    have hty := kk f hf hc
    split at hm
    · rename_i hK
      cases hm
      simp only [allG, Bool.and_true, decide_eq_true_eq] at hg
      rw [hK] at hty
      obtain ⟨n1, n2⟩ := nar_ref hty (tN B o v)
      intro H locs ls hR hL hS
      exact pf_core (h' := stR h x (f % 64) v) F hd hf hc hfin hg (v := va_rf (tN B o v)) n1 n2 rfl (fun _ => rfl) (fun _ => rfl) (fun _ _ _ => rfl) (fun _ _ _ => rfl) (fun y hy k => by rw [stR_r, if_neg (fun q => hy q.1)]) (fun j _ => fdV_stR hK) hR hS (fun H' locs' hR' hS' => K H' locs' ls hR' hL hS')
    · cases hm
  · cases hm
theorem inB_in {i : Int32} {n : Nat} (h : inB i n = true) : ¬ (i < 0 ∨ n ≤ i.toNatClampNeg) := by
  unfold inB at h
  simp only [Bool.and_eq_true, Bool.not_eq_true', decide_eq_false_iff_not, decide_eq_true_eq] at h
  rintro (h1 | h1)
  · exact h.1 h1
  · omega
end STP
