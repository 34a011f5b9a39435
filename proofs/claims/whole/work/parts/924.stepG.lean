/-! copies, Math, constants, statics, casts -/
section STP
variable {p : Program} {l : Launch} {e : Env} {R : Room} {s : State} {m : MethodId} {args : Array Value} {below : List Frame} {meth : Method} {c : Code} {Q : State → Prop} {B : Nat} {o : Nat → Nat} {D : va_G} {ca : Nat → ClassId} {h0 : AH} {u z0 u0 : Nat} {pc pc' : Nat} {L L' S S' : List Value} {h h' : AH} {g : List Bool} {H : Heap} {locs : List Loc}
theorem sp_copy (F : FX B o D ca h0 u p s m args meth c) {i a b : Nat} {n dp sp : Int32} {r : List Value} (hd : decode (cM u) pc = .ok (.invokestatic i, 3)) (hmT : mT (owM u) i = some 9997) (hdp : dp = 0) (hsp : sp = 0) (hka : kdA h a = 20) (hkb : kdA h b = 20) (hn : ¬ n < 0) (hna : ix n ≤ lnA h a) (hnb : ix n ≤ lnA h b) (hab : a ≠ b) (hcat : catS r = true) (hf : 1 ≤ R.frames) (hlo : 50 ≤ R.locals)
    (K : WA p l e R s m args below meth c Q B o D ca h0 u z0 u0 (pc + 3, L, r, cpA h a b (ix n))) : WA p l e R s m args below meth c Q B o D ca h0 u z0 u0 (pc, L, .int n :: .int dp :: .ref b :: .int sp :: .ref a :: r, h) := by
  obtain ⟨hx, hb, hml, hown, hts, hin, hC, hB⟩ := F
  subst hdp; subst hsp
  obtain ⟨pp, hw⟩ := wM hmT
  unfold mWc at hw
  rw [if_neg (by decide), if_neg (by decide), if_pos rfl] at hw
  intro H locs ls hR hL hS
  obtain ⟨hxa, e1, hca⟩ := own_arr hR hka (Or.inl rfl)
  obtain ⟨hxb, e2, hcb⟩ := own_arr hR hkb (Or.inl rfl)
  show W p l e R s m args below meth c H locs _ _ Q (F0 m pc ls (.int n :: .int 0 :: tV B o (.ref b) :: .int 0 :: tV B o (.ref a) :: _))
  rw [e1, e2]
  have hcs := catS_le hcat
  have hcm := cat_map B o r
  have nn : ∀ z : Int32, ¬ z < 0 → z.toInt = (z.toNatClampNeg : Int) := by
    intro z hz
    have hz0 : (0 : Int) ≤ z.toInt := by
      have := Int32.not_lt.mp hz
      simpa using Int32.le_iff_toInt_le.mp this
    show z.toInt = ((z.toInt.toNat : Nat) : Int)
    omega
  have z0i : ¬ (0 : Int32) < 0 := by decide
  have hna' : n.toNatClampNeg ≤ lnA h a := hna
  have hnb' : n.toNatClampNeg ≤ lnA h b := hnb
  have hnw : nativeFrameWords "java/lang/System" "arraycopy" 5 ≤ 20 := by decide +kernel
  have z0n : (0 : Int32).toNatClampNeg = 0 := by decide
  intro T hT X
  obtain ⟨-, k0, hk0, cm0, hkk0⟩ := (hC.1.2 0 _ rfl).1 (lnA h a) (fun j => .int (ivA h a j))
  obtain ⟨-, k1, hk1, cm1, hkk1⟩ := (hC.1.2 0 _ rfl).1 (lnA h b) (fun j => .int (ivA h b j))
  obtain ⟨vm', X', step⟩ := X.arraycopy hx hown (hts _ (gd_of (inT_mem hw) rfl)) (hts (.native arraycopyName) (gd_of (by decide +kernel) rfl)) (hts (.static arraycopyName) (gd_of (by decide +kernel) rfl)) (hts (.initialized "java/lang/System") (gd_of (by decide +kernel) rfl)) (src := B + (a - 1)) (dst := B + (b - 1)) (cs := vp_cell (ca 20) (lnA h a, .inl (ivA h a))) (cd := vp_cell (ca 20) (lnA h b, .inl (ivA h b))) (srcPos := 0) (destPos := 0) (n := n) (by rw [hT]; exact hca) (by rw [hT]; exact hcb)
    (fun _ h => by cases h) (fun _ h => by cases h) (fun h => by cases h) (fun h => by cases h) hk0 hk1 hkk0 hkk1 (by simp [refKind]) z0i z0i hn
    (by rw [nn 0 z0i, nn n hn, z0n]; show ¬ _ > ((arrV (ca 20) (lnA h a) (fun j => .int (ivA h a j))).slots.size : Int); rw [arrV_size]; omega)
    (by rw [nn 0 z0i, nn n hn, z0n]; show ¬ _ > ((arrV (ca 20) (lnA h b) (fun j => .int (ivA h b j))).slots.size : Int); rw [arrV_size]; omega)
    (fun vm₁ _ i hi => by
      have e : (vp_cell (ca 20) (lnA h a, .inl (ivA h a))).slots.getD ((0 : Int32).toNatClampNeg + i) .null = .int (ivA h a ((0 : Int32).toNatClampNeg + i)) := by
        show (arrV (ca 20) (lnA h a) (fun j => .int (ivA h a j))).slots.getD _ _ = _
        rw [Array.getD_eq_getD_getElem?, arrV_read _ _ (by rw [z0n]; omega)]
        rfl
      refine ⟨?_, ?_⟩
      · rw [e]
        rfl
      · rw [e]
        exact trivial)
    (g := F0 m pc ls (.int n :: .int 0 :: .ref (B + (b - 1)) :: .int 0 :: .ref (B + (a - 1)) :: r.map (tV B o))) rfl (by rw [hml]; exact hL.1) (rest := r.map (tV B o)) rfl (by rw [hb]; exact hd) hf (by show 2 * 0 + _ + _ ≤ _; omega)
  have e3 : copied (vp_cell (ca 20) (lnA h a, .inl (ivA h a))) (vp_cell (ca 20) (lnA h b, .inl (ivA h b))) 0 0 n = vp_cell (ca 20) (lnA h b, .inl (va_cpy (ivA h a) (ivA h b) 0 0 (ix n))) := va_copied (fun z => .int z) (ca 20) (ca 20) (ivA h a) (ivA h b) (by rw [z0n]; omega)
  rw [e3] at X' step
  generalize hH1 : H.setIfInBounds (B + (b - 1)) (vp_cell (ca 20) (lnA h b, .inl (va_cpy (ivA h a) (ivA h b) 0 0 (ix n)))) = H1
  have hheap : ((T.setVm vm').setCell (B + (b - 1)) (vp_cell (ca 20) (lnA h b, .inl (va_cpy (ivA h a) (ivA h b) 0 0 (ix n))))).heap = H1 := by rw [← hH1, ← hT]; rfl
  have hlt : B + (b - 1) < H.size := (Array.getElem?_eq_some_iff.mp hcb).1
  have g1 : H1[B + (b - 1)]? = some (vp_cell (ca 20) (lnA h b, .inl (va_cpy (ivA h a) (ivA h b) 0 0 (ix n)))) := by rw [← hH1]; simp [Array.getElem?_setIfInBounds, hlt]
  have g2 : H1.size = H.size := by rw [← hH1]; simp
  have g3 : ∀ q : Nat, q ≠ B + (b - 1) → H1[q]? = H[q]? := fun q hq => by rw [← hH1]; simp [Array.getElem?_setIfInBounds, Ne.symm hq]
  have hHR : HR B o D ca h0 (cpA h a b (ix n)) H1 := by
    refine HR_set hR hxb rfl (fun _ => rfl) (fun _ => rfl) (fun y hy k => by rw [cpA_i, if_neg hy]) (fun _ _ _ => rfl) (fun _ _ _ => rfl) g2 g3 ?_
    unfold clE
    rw [show kdA (cpA h a b (ix n)) b = 20 from hkb, if_neg (by omega), if_neg (by omega), if_neg (by omega)]
    show H1[_]? = some (vp_cell _ _)
    rw [g1]
    have e4 : ivA (cpA h a b (ix n)) b = va_cpy (ivA h a) (ivA h b) 0 0 (ix n) := by
      funext j
      rw [cpA_i, if_pos rfl]
      unfold va_cpy
      by_cases hj : j < ix n
      · rw [if_pos hj, if_pos ⟨Nat.zero_le _, by omega⟩]
        congr 1
        omega
      · rw [if_neg hj, if_neg (fun q => hj (by omega))]
    rw [e4]
    rfl
  obtain ⟨t, b1, b2⟩ := K H1 _ ls hHR hL ⟨by rw [g2]; exact hS.1, fun q q1 q2 => by
      rw [g3 q (fun e => q2 (by rw [e]; exact Nat.le_add_right _ _))]
      exact hS.2.1 q q1 q2, fun q hq => by
      rcases List.mem_append.mp hq with h | h
      · exact hS.2.2 q h
      · obtain ⟨z, -, hz⟩ := List.mem_map.mp h
        rw [← hz]
        exact Nat.le_add_right _ _⟩ _ hheap X'
  exact ⟨t, step t b1, b2⟩
theorem sp_gsR (F : FX B o D ca h0 u p s m args meth c) {i : Nat} (hd : decode (cM u) pc = .ok (.getstatic i, 3)) (hm : gsR (owM u) i (pc + 3) L S h = some (g, .inl (pc', L', S', h'))) (K : WA p l e R s m args below meth c Q B o D ca h0 u z0 u0 (pc', L', S', h')) : WA p l e R s m args below meth c Q B o D ca h0 u z0 u0 (pc, L, S, h) := by
  obtain ⟨hx, hb, hml, hown, hts, hin, hC, hB⟩ := F
  unfold gsR nxt at hm
  split at hm
  · rename_i hgT
    cases hm
    obtain ⟨pp, hw⟩ := wG hgT
    unfold gWc at hw
    rw [if_pos rfl] at hw
    intro H locs ls hR hL hS
    have hK := K H locs ls hR hL hS
    rw [show rvA h 1000009 0 = rvA h0 1000009 0 from (hR.2.2.2 1000009 (by omega)).2.2.2 0] at hK
    exact va_gets hx hb hC.2.2.2.2.2.2.1 hS hown (hts _ (gd_of (inT_mem hw) rfl)) (fun _ h => h) hd hK
  · rename_i hgT
    cases hm
    obtain ⟨pp, hw⟩ := wG hgT
    unfold gWc at hw
    rw [if_neg (by decide), if_pos rfl] at hw
    intro H locs ls hR hL hS
    have hK := K H locs ls hR hL hS
    rw [show ivA h 1000009 1 = ivA h0 1000009 1 from (hR.2.2.2 1000009 (by omega)).2.2.1 1] at hK
    exact va_gets hx hb hC.2.2.2.2.2.1 hS hown (hts _ (gd_of (inT_mem hw) rfl)) (fun _ h => h) hd hK
  · cases hm
end STP
