/-! arrays of references, copies, Object's constructor, Math, constants, statics -/
theorem cpA_i (h : AH) (a b n x j : Nat) : ivA (cpA h a b n) x j = if x = b then (if j < n then ivA h a j else ivA h b j) else ivA h x j := by
  show (if x = b then (fun j => if j < n then ivA h a j else ivA h b j) else h.2.2.1 x) j = _
  by_cases e : x = b
  · rw [if_pos e, if_pos e]
  · rw [if_neg e, if_neg e]; rfl
theorem catS_le {S : List Value} (h : catS S = true) : (S.map fun v => v.category).sum ≤ 8 := of_decide_eq_true h
theorem cat_map (B : Nat) (o : Nat → Nat) (S : List Value) : ((S.map (tV B o)).map fun v => v.category).sum = (S.map fun v => v.category).sum := by
  rw [List.map_map]
  congr 1
  apply List.map_congr_left
  intro v _
  exact tV_cat B o v
section STP
variable {p : Program} {l : Launch} {e : Env} {R : Room} {s : State} {m : MethodId} {args : Array Value} {below : List Frame} {meth : Method} {c : Code} {Q : State → Prop} {B : Nat} {o : Nat → Nat} {D : va_G} {ca : Nat → ClassId} {h0 : AH} {u z0 u0 : Nat} {pc pc' : Nat} {L L' S S' : List Value} {h h' : AH} {g : List Bool} {H : Heap} {locs : List Loc}
theorem sp_anew (F : FX B o D ca h0 u p s m args meth c) {i : Nat} (hd : decode (cM u) pc = .ok (.anewarray i, 3)) (hm : nwQ (owM u) i (pc + 3) L S h = some (g, .inl (pc', L', S', h'))) (hg : allG g = true) (hz0 : z0 ≤ szA h) (hu0 : u0 ≤ usA h) (hc : szA h' ≤ z0 + R.cells) (hs : usA h' ≤ u0 + R.slots) (hsz : szA h' < 1000000) (K : WA p l e R s m args below meth c Q B o D ca h0 u z0 u0 (pc', L', S', h')) : WA p l e R s m args below meth c Q B o D ca h0 u z0 u0 (pc, L, S, h) := by
  obtain ⟨hx, hb, hml, hown, hts, hin, hC, hB⟩ := F
  unfold nwQ at hm
  split at hm
  · rename_i cl hcT
    split at hm
    · rename_i hlt
      unfold nwP nxtG at hm
      split at hm
      · rename_i n r
        cases hm
        simp only [allG, okN, Bool.and_true] at hg
        have hn := inB_in hg
        have hnl := inB_lt hg
        have hcl : cl = 5 ∨ cl = 10 ∨ cl = 8 ∨ cl = 3 := by
          have h1 : aOf cl < 34 := Nat.le_of_ble_eq_true hlt
          unfold aOf at h1
          split at h1 <;> omega
        obtain ⟨pp, hw⟩ := wC hcT
        unfold cWc at hw
        rw [if_neg (by omega), Bool.and_eq_true] at hw
        have hao : va_AO (RC cl) s := by
          obtain ⟨-, -, -, -, -, -, -, -, -, -, d1, d2, d3, d4⟩ := hC
          rcases hcl with rfl | rfl | rfl | rfl
          · exact d1
          · exact d2
          · exact d3
          · exact d4
        change szA h + 1 ≤ z0 + R.cells at hc
        change usA h + ix n ≤ u0 + R.slots at hs
        change szA h + 1 < 1000000 at hsz
        intro H locs ls hR hL hS
        have hsize : H.size = B + szA h := hR.1
        refine W.anew hx hb hown (hts _ (gd_of (inT_mem hw.1) rfl)) (va_AO.use hao) rfl hd rfl (fun q => hn (Or.inl q)) (by show ix n * 4 ≤ _; omega) (by show szA h - z0 + 1 ≤ R.cells; omega) (by show usA h - u0 + ix n ≤ R.slots; omega) (fun cA kA comp f1 f2 f3 f4 => ?_)
        generalize hH1 : H.push ({ cls := cA, slots := Array.replicate n.toNatClampNeg .null, vm := .none } : Cell) = H1
        have z1 : H1.size = H.size + 1 := by rw [← hH1, Array.size_push]
        have e1 : H1[H.size]? = some (arrV cA n.toNatClampNeg (fun _ => .null)) := by rw [← hH1, Array.getElem?_push_size, ← arrV_new]
        have o1 : ∀ q : Nat, q < H.size → H1[q]? = H[q]? := fun q hq => by rw [← hH1, Array.getElem?_push, if_neg (Nat.ne_of_lt hq)]
        have hca : cA = ca (aOf cl) := by
          have hK2 := hC.1.2
          rcases hcl with rfl | rfl | rfl | rfl
          · obtain ⟨_, _, -, -, -, h4⟩ := (hK2 5 _ rfl).2
            exact Option.some.inj (f1.symm.trans h4)
          · obtain ⟨_, _, -, -, -, h4⟩ := (hK2 6 _ rfl).2
            exact Option.some.inj (f1.symm.trans h4)
          · obtain ⟨_, _, -, -, -, h4⟩ := (hK2 7 _ rfl).2
            exact Option.some.inj (f1.symm.trans h4)
          · obtain ⟨_, _, -, -, -, h4⟩ := (hK2 8 _ rfl).2
            exact Option.some.inj (f1.symm.trans h4)
        subst hca
        have hok : 30 ≤ aOf cl ∧ aOf cl ≤ 33 := by rcases hcl with rfl | rfl | rfl | rfl <;> decide
        have hHR : HR B o D ca h0 (nwA h (aOf cl) (ix n)) H1 := by
          refine HR_new hR (Or.inr (Or.inr hok)) hsz z1 o1 ?_
          have hi : (fun j => tN B o (rvA (nwA h (aOf cl) (ix n)) (szA h + 1) j)) = fun _ => none := by
            funext j
            rw [nw_r]
            rfl
          unfold clE
          rw [nw_k, nw_n, hi, if_neg (by omega), if_neg (by omega), if_pos (by omega), ← hsize]
          exact e1
        have hK := K H1 locs ls hHR hL ⟨Nat.le_trans hS.1 (by omega), fun q h1 h2 => (o1 q (by have := hS.1; omega)).trans (hS.2.1 q h1 h2), hS.2.2⟩
        simp only [List.map_cons, new_ref hsz] at hK
        rw [hsize]
        refine W.cs ?_ ?_ hK
        · show szA h - z0 + 1 = szA h + 1 - z0; omega
        · show usA h - u0 + ix n = usA h + ix n - u0; omega
      · cases hm
    · cases hm
  · cases hm
theorem sp_oinit (F : FX B o D ca h0 u p s m args meth c) {i : Nat} {x : Nat} {r : List Value} (hd : decode (cM u) pc = .ok (.invokespecial i, 3)) (hmT : mT (owM u) i = some 9999) (hcat : catS r = true) (hf : 1 ≤ R.frames) (hlo : 50 ≤ R.locals) (hx0 : x ≠ 0) (K : WA p l e R s m args below meth c Q B o D ca h0 u z0 u0 (pc + 3, L, r, h)) : WA p l e R s m args below meth c Q B o D ca h0 u z0 u0 (pc, L, .ref x :: r, h) := by
  obtain ⟨hx, hb, hml, hown, hts, hin, hC, hB⟩ := F
  obtain ⟨pp, hw⟩ := wM hmT
  unfold mWc at hw
  rw [if_pos rfl] at hw
  intro H locs ls hR hL hS
  show W p l e R s m args below meth c H locs _ _ Q (F0 m pc ls (tV B o (.ref x) :: _))
  rw [tV_r B o hx0]
  refine W.objInit hx hb hown (hts _ (gd_of (inT_mem hw) rfl)) (hts _ (gd_of (w := .instanceMethod objectInit) (by decide +kernel) rfl)) (hts _ (gd_of (w := .code objectInit ⟨#[0xb1]⟩ 1 none) (by decide +kernel) rfl)) rfl (by rw [hml]; exact hL.1) rfl hd hf ?_ (K H locs ls hR hL hS)
  have h1 := catS_le hcat
  have h2 := cat_map B o r
  show 2 * 0 + ((r.map (tV B o)).map fun v => v.category).sum + 12 ≤ R.locals
  omega
theorem arrV_congr (cA : ClassId) (n : Nat) (f f' : Nat → Value) (h : ∀ j, j < n → f j = f' j) : arrV cA n f = arrV cA n f' := by
  unfold arrV
  congr 2
  funext j
  exact h j.val j.isLt
theorem sp_clone (F : FX B o D ca h0 u p s m args meth c) {i a : Nat} {r : List Value} (hd : decode (cM u) pc = .ok (.invokevirtual i, 3)) (hmT : mT (owM u) i = some 9998) (hcat : catS r = true) (hk : kdA h a = 20) (hf : 1 ≤ R.frames) (hlo : 50 ≤ R.locals) (hz0 : z0 ≤ szA h) (hu0 : u0 ≤ usA h) (hc : szA h + 1 ≤ z0 + R.cells) (hs : usA h + lnA h a ≤ u0 + R.slots) (hsz : szA h + 1 < 1000000)
    (K : WA p l e R s m args below meth c Q B o D ca h0 u z0 u0 (pc + 3, L, .ref (szA h + 1) :: r, cpA (nwA h 20 (lnA h a)) a (szA h + 1) (lnA h a))) : WA p l e R s m args below meth c Q B o D ca h0 u z0 u0 (pc, L, .ref a :: r, h) := by
  obtain ⟨hx, hb, hml, hown, hts, hin, hC, hB⟩ := F
  obtain ⟨pp, hw⟩ := wM hmT
  unfold mWc at hw
  rw [if_neg (by decide), if_pos rfl] at hw
  intro H locs ls hR hL hS
  obtain ⟨hxa, e1, hcell⟩ := own_arr hR hk (Or.inl rfl)
  have hsize : H.size = B + szA h := hR.1
  have hsz0 : (vp_cell (ca 20) (lnA h a, .inl (ivA h a))).slots.size = lnA h a := arrV_size _ _ _
  obtain ⟨c0, t0', f1, f2, f3⟩ := Cond.castable_spec (va_Nw.use (A := args) rfl hC.2.2.2.2.2.2.2.2.2.1)
  cases hC.2.1.symm.trans f1
  show W p l e R s m args below meth c H locs _ _ Q (F0 m pc ls (tV B o (.ref a) :: _))
  rw [e1]
  have hcs := catS_le hcat
  have hcm := cat_map B o r
  intro T hT X
  have hcellT : T.heap[B + (a - 1)]? = some (vp_cell (ca 20) (lnA h a, .inl (ivA h a))) := by rw [hT]; exact hcell
  obtain ⟨-, kA, hkA, comp, hkind⟩ := State.isArrayOf_alike X.warmed.alike ((hC.1.2 0 _ rfl).1 0 (fun _ => .null))
  obtain ⟨-, kS, hkS, compS, hkindS⟩ := (hC.1.2 0 _ rfl).1 0 (fun _ => .null)
  obtain ⟨vm', X', st⟩ := X.cloneArray hx hown (hts _ (gd_of (inT_mem hw) rfl)) (hts (.sameMethod "[I" "java/lang/Object" "clone" "()Ljava/lang/Object;") (gd_of (by decide +kernel) rfl)) (hts (.native ⟨"java/lang/Object", "clone", "()Ljava/lang/Object;"⟩) (gd_of (by decide +kernel) rfl)) (hts (.instanceMethod ⟨"java/lang/Object", "clone", "()Ljava/lang/Object;"⟩) (gd_of (by decide +kernel) rfl)) (hts (.selects "[I" ⟨"[I", "clone", "()Ljava/lang/Object;"⟩ ⟨"java/lang/Object", "clone", "()Ljava/lang/Object;"⟩) (gd_of (by decide +kernel) rfl)) (a := B + (a - 1)) (cell := vp_cell (ca 20) (lnA h a, .inl (ivA h a))) hcellT (fun k h => by cases h) (fun h => by cases h) hC.2.1 f2 f3
    (fun i v hv => by
      have hk' : T.vm.classes[ca 20]? = some kA := hkA
      have hv' : fits .int v = true := by
        rw [vp_cell_i] at hv
        obtain ⟨hi, hv2⟩ := Array.getElem?_eq_some_iff.mp hv
        rw [arrV_size] at hi
        rw [arrV_read _ _ hi] at hv
        cases hv
        rfl
      show State.fitsSlot _ (ca 20) _ _ _ = true
      simpa [State.fitsSlot, State.slotType?, hk', hkind] using hv')
    (g := F0 m pc ls (.ref (B + (a - 1)) :: r.map (tV B o))) rfl (by rw [hml]; exact hL.1) rfl (by rw [hb]; exact hd) hf (by show 2 * 0 + _ + 14 ≤ _; omega) (by show szA h - z0 + 1 ≤ R.cells; omega) (by rw [hsz0]; show usA h - u0 + lnA h a ≤ R.slots; omega) (hloader := Vm.clonesLoader_of_array hkS hkindS)
  rw [hsz0] at X'
  generalize hH1 : H.push (vp_cell (ca 20) (lnA h a, .inl (ivA h a))) = H1
  have z1 : H1.size = H.size + 1 := by rw [← hH1, Array.size_push]
  have g1 : H1[H.size]? = some (vp_cell (ca 20) (lnA h a, .inl (ivA h a))) := by rw [← hH1, Array.getElem?_push_size]
  have o1 : ∀ q : Nat, q < H.size → H1[q]? = H[q]? := fun q hq => by rw [← hH1, Array.getElem?_push, if_neg (Nat.ne_of_lt hq)]
  have hxa2 : a ≤ szA h := hxa.2
  have hne : a ≠ szA h + 1 := by omega
  have hHR : HR B o D ca h0 (cpA (nwA h 20 (lnA h a)) a (szA h + 1) (lnA h a)) H1 := by
    refine HR_newG hR (t := 20) (Or.inr (Or.inl (by omega))) hsz rfl (fun _ => rfl) (fun x hx => ?_) z1 o1 ?_
    · obtain ⟨q1, q2, q3, q4⟩ := nw_old h 20 (lnA h a) x hx
      refine ⟨q1, funext fun j => ?_, q3, q4⟩
      rw [cpA_i, if_neg hx, q2]
    · unfold clE
      rw [show kdA (cpA (nwA h 20 (lnA h a)) a (szA h + 1) (lnA h a)) (szA h + 1) = 20 from nw_k h 20 (lnA h a), show lnA (cpA (nwA h 20 (lnA h a)) a (szA h + 1) (lnA h a)) (szA h + 1) = lnA h a from nw_n h 20 (lnA h a), if_neg (by omega), if_neg (by omega), if_neg (by omega), ← hsize]
      show H1[H.size]? = some (vp_cell _ _)
      rw [g1, vp_cell_i, vp_cell_i]
      congr 1
      refine arrV_congr _ _ _ _ (fun j hj => ?_)
      rw [cpA_i, if_pos rfl, if_pos hj, (nw_old h 20 (lnA h a) a hne).2.1]
  have hK := K H1 locs ls hHR hL ⟨Nat.le_trans hS.1 (by omega), fun q h1 h2 => (o1 q (by have := hS.1; omega)).trans (hS.2.1 q h1 h2), hS.2.2⟩
  simp only [List.map_cons, new_ref hsz] at hK
  rw [← hsize] at hK
  have hK2 := W.cs (cells := szA h - z0 + 1) (slots := usA h - u0 + lnA h a) (by show szA h - z0 + 1 = szA h + 1 - z0; omega) (by show usA h - u0 + lnA h a = usA h + lnA h a - u0; omega) hK
  obtain ⟨t, b1, b2⟩ := hK2 _ (by rw [← hH1, ← hT]; rfl) X'
  exact ⟨t, st t (by rw [hT]; exact b1), b2⟩
end STP
