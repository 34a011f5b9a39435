/-! stores into arrays, new cells -/
section STP
variable {p : Program} {l : Launch} {e : Env} {R : Room} {s : State} {m : MethodId} {args : Array Value} {below : List Frame} {meth : Method} {c : Code} {Q : State → Prop} {B : Nat} {o : Nat → Nat} {D : va_G} {ca : Nat → ClassId} {h0 : AH} {u z0 u0 : Nat} {pc pc' : Nat} {L L' S S' : List Value} {h h' : AH} {g : List Bool} {H : Heap} {locs : List Loc}
/-- an own int-like array after a store -/
theorem HR_stI (hR : HR B o D ca h0 h H) {x t k : Nat} {v : Int32} {H' : Heap} (hk : kdA h x = t) (ht : t = 20 ∨ t = 22 ∨ t = 23 ∨ t = 24) (e1 : H'[B + (x - 1)]? = some ((vp_cell (ca t) (lnA h x, .inl (ivA h x))).setSlot k (.int v))) (e2 : H'.size = H.size) (e3 : ∀ q, q ≠ B + (x - 1) → H'[q]? = H[q]?) : HR B o D ca h0 (stI h x k v) H' := by
  obtain ⟨hx, -, -⟩ := own_arr hR hk ht
  refine HR_set hR hx rfl (fun _ => rfl) (fun _ => rfl) (fun y hy k => by rw [stI_i, if_neg (fun q => hy q.1)]) (fun _ _ _ => rfl) (fun _ _ _ => rfl) e2 e3 ?_
  unfold clE
  rw [show kdA (stI h x k v) x = t from hk, if_neg (by omega), if_neg (by omega), if_neg (by omega)]
  rw [cell_stI] at e1
  exact e1
theorem sp_iast (F : FX B o D ca h0 u p s m args meth c) (hd : decode (cM u) pc = .ok (.iastore, 1)) (hm : asI 20 (fun x => x) (pc + 1) L S h = some (g, .inl (pc', L', S', h'))) (hg : allG g = true) (K : WA p l e R s m args below meth c Q B o D ca h0 u z0 u0 (pc', L', S', h')) : WA p l e R s m args below meth c Q B o D ca h0 u z0 u0 (pc, L, S, h) := by
  unfold asI at hm
  split at hm
  · rename_i v i a r
    cases hm
    simp only [allG, Bool.and_true, Bool.and_eq_true, decide_eq_true_eq] at hg
    intro H locs ls hR hL hS
    obtain ⟨hx, e1, e2⟩ := own_arr hR hg.1 (Or.inl rfl)
    show W p l e R s m args below meth c H locs _ _ Q (F0 m pc ls (.int v :: .int i :: tV B o (.ref a) :: _))
    rw [e1]
    exact W.iast F.1 F.2.1 e2 ((F.2.2.2.2.2.2.1.1.2 0 _ rfl).1 _ _) (fun q => by cases q) (by rw [vp_cell_i, arrV_size]; exact inB_in hg.2) rfl rfl hd (fun H' g1 g2 g3 => K H' _ ls (HR_stI hR hg.1 (Or.inl rfl) g1 g2 g3) hL (hS.put g2 g3 (Nat.le_add_right _ _)))
  · cases hm
theorem sp_sast (F : FX B o D ca h0 u p s m args meth c) (hd : decode (cM u) pc = .ok (.sastore, 1)) (hm : asI 23 (fun x => x.toInt16.toInt32) (pc + 1) L S h = some (g, .inl (pc', L', S', h'))) (hg : allG g = true) (K : WA p l e R s m args below meth c Q B o D ca h0 u z0 u0 (pc', L', S', h')) : WA p l e R s m args below meth c Q B o D ca h0 u z0 u0 (pc, L, S, h) := by
  unfold asI at hm
  split at hm
  · rename_i v i a r
    cases hm
    simp only [allG, Bool.and_true, Bool.and_eq_true, decide_eq_true_eq] at hg
    intro H locs ls hR hL hS
    obtain ⟨hx, e1, e2⟩ := own_arr hR hg.1 (by omega)
    show W p l e R s m args below meth c H locs _ _ Q (F0 m pc ls (.int v :: .int i :: tV B o (.ref a) :: _))
    rw [e1]
    exact W.sast F.1 F.2.1 e2 ((F.2.2.2.2.2.2.1.1.2 3 _ rfl).1 _ _) (fun q => by cases q) (by rw [vp_cell_i, arrV_size]; exact inB_in hg.2) rfl rfl hd (fun H' g1 g2 g3 => K H' _ ls (HR_stI hR hg.1 (by omega) g1 g2 g3) hL (hS.put g2 g3 (Nat.le_add_right _ _)))
  · cases hm
theorem sp_bast (F : FX B o D ca h0 u p s m args meth c) (hd : decode (cM u) pc = .ok (.bastore, 1)) (hm : asB (pc + 1) L S h = some (g, .inl (pc', L', S', h'))) (hg : allG g = true) (K : WA p l e R s m args below meth c Q B o D ca h0 u z0 u0 (pc', L', S', h')) : WA p l e R s m args below meth c Q B o D ca h0 u z0 u0 (pc, L, S, h) := by
  unfold asB at hm
  split at hm
  · rename_i v i a r
    cases hm
    simp only [allG, Bool.and_true, Bool.and_eq_true, Bool.or_eq_true, decide_eq_true_eq] at hg
    intro H locs ls hR hL hS
    show W p l e R s m args below meth c H locs _ _ Q (F0 m pc ls (.int v :: .int i :: tV B o (.ref a) :: _))
    rcases hg.1 with hk | ⟨hk, hv⟩
    · obtain ⟨hx, e1, e2⟩ := own_arr hR hk (by omega)
      rw [e1]
      exact W.bast F.1 F.2.1 e2 ((F.2.2.2.2.2.2.1.1.2 2 _ rfl).1 _ _) (fun q => by cases q) (by rw [vp_cell_i, arrV_size]; exact inB_in hg.2) rfl rfl hd (fun H' g1 g2 g3 => K H' _ ls (HR_stI hR hk (by omega) g1 g2 g3) hL (hS.put g2 g3 (Nat.le_add_right _ _)))
    · obtain ⟨hx, e1, e2⟩ := own_arr hR hk (by omega)
      obtain ⟨n1, n2, n3⟩ := nar_bool hv
      rw [e1]
      refine W.zast F.1 F.2.1 e2 ((F.2.2.2.2.2.2.1.1.2 4 _ rfl).1 _ _) (fun q => by cases q) (by rw [vp_cell_i, arrV_size]; exact inB_in hg.2) rfl rfl hd (fun H' g1 g2 g3 => K H' _ ls (HR_stI hR hk (by omega) ?_ g2 g3) hL (hS.put g2 g3 (Nat.le_add_right _ _)))
      rw [n1] at g1
      rw [n3]
      exact g1
  · cases hm
theorem sp_last (F : FX B o D ca h0 u p s m args meth c) (hd : decode (cM u) pc = .ok (.lastore, 1)) (hm : asJ (pc + 1) L S h = some (g, .inl (pc', L', S', h'))) (hg : allG g = true) (K : WA p l e R s m args below meth c Q B o D ca h0 u z0 u0 (pc', L', S', h')) : WA p l e R s m args below meth c Q B o D ca h0 u z0 u0 (pc, L, S, h) := by
  unfold asJ at hm
  split at hm
  · rename_i v i a r
    cases hm
    simp only [allG, Bool.and_true, Bool.and_eq_true, decide_eq_true_eq] at hg
    intro H locs ls hR hL hS
    obtain ⟨hx, e1, e2⟩ := own_arrJ hR hg.1
    show W p l e R s m args below meth c H locs _ _ Q (F0 m pc ls (.long v :: .int i :: tV B o (.ref a) :: _))
    rw [e1]
    refine W.last F.1 F.2.1 e2 ((F.2.2.2.2.2.2.1.1.2 1 _ rfl).1 _ _) (fun q => by cases q) (by rw [vp_cell_l, arrV_size]; exact inB_in hg.2) rfl rfl hd (fun H' g1 g2 g3 => K H' _ ls ?_ hL (hS.put g2 g3 (Nat.le_add_right _ _)))
    refine HR_set hR hx rfl (fun _ => rfl) (fun _ => rfl) (fun _ _ _ => rfl) (fun y hy k => by rw [stJ_j, if_neg (fun q => hy q.1)]) (fun _ _ _ => rfl) g2 g3 ?_
    unfold clE
    rw [show kdA (stJ h a (ix i) v) a = 21 from hg.1, if_neg (by omega), if_pos rfl]
    rw [cell_stJ] at g1
    exact g1
  · cases hm
theorem sp_aast (F : FX B o D ca h0 u p s m args meth c) (hd : decode (cM u) pc = .ok (.aastore, 1)) (hm : asR (pc + 1) L S h = some (g, .inl (pc', L', S', h'))) (hg : allG g = true) (K : WA p l e R s m args below meth c Q B o D ca h0 u z0 u0 (pc', L', S', h')) : WA p l e R s m args below meth c Q B o D ca h0 u z0 u0 (pc, L, S, h) := by
  unfold asR at hm
  split at hm
  · rename_i v i a r
    cases hm
    simp only [allG, Bool.and_true, Bool.and_eq_true, decide_eq_true_eq] at hg
    intro H locs ls hR hL hS
    have hka : 30 ≤ kdA h a ∧ kdA h a ≤ 33 := by
      have h1 := hg.1
      have h2 := hg.2.1
      unfold akC at h1
      split at h1 <;> omega
    obtain ⟨hx, e1, e2⟩ := own_arrR hR (t := kdA h a) rfl hka
    obtain ⟨t0, ht0, hc13⟩ := tys_ref (ca := ca) hka
    obtain ⟨hxv, ev, hat⟩ := own_at hR (x := v) hg.1.symm hc13
    obtain ⟨r', hr', cellV, q1, q2, q3, -⟩ := hat
    have hC := F.2.2.2.2.2.2.1
    have hcls := (hC.1.1 (akC (kdA h a)) _ (vw_at hc13)).2
    obtain ⟨kA, comp, k1, k2, k3, -⟩ := (hC.1.2 t0 _ ht0).2
    have hcomp : comp = D.1 (akC (kdA h a)) := Option.some.inj (k3.symm.trans hcls.1)
    subst hcomp
    obtain ⟨kC, hkC, -⟩ := hcls.2
    show W p l e R s m args below meth c H locs _ _ Q (F0 m pc ls (tV B o (.ref v) :: .int i :: tV B o (.ref a) :: _))
    rw [e1, ev]
    refine W.aast F.1 F.2.1 e2 (fun q h => by cases h) (fun h => by cases h) k1 k2 rfl hkC ⟨fun q => inB_in hg.2.2 (Or.inl q), by rw [vp_cell_q, arrV_size]; exact inB_lt hg.2.2⟩ q1 (fun q h => by rw [q3] at h; cases h) (by rw [q2]; exact hkC) (by rw [q2]; exact va_assign hcls) rfl rfl hd (fun H' g1 g2 g3 => K H' _ ls ?_ hL (hS.put g2 g3 (Nat.le_add_right _ _)))
    refine HR_set hR hx rfl (fun _ => rfl) (fun _ => rfl) (fun _ _ _ => rfl) (fun _ _ _ => rfl) (fun y hy k => by rw [stR_r, if_neg (fun q => hy q.1)]) g2 g3 ?_
    unfold clE
    rw [show kdA (stR h a (ix i) v) a = kdA h a from rfl, if_neg (by omega), if_neg (by omega), if_pos (by omega)]
    have ev2 : Value.ref (B + (v - 1)) = va_rf (tN B o v) := ev.symm
    rw [ev2, cell_stR] at g1
    exact g1
  · cases hm
theorem new_ref (hsz : szA h + 1 < 1000000) : tV B o (.ref (szA h + 1)) = .ref (B + szA h) := by
  rw [tV_r B o (by omega), adA_own B o hsz]
  rfl
theorem def_fd {t : FieldType} (c k : Nat) (ht : tyKd t = fK c k) (hk : fK c k ≤ 3) (x : Nat) (hi : ivA h x k = 0) (hj : jvA h x k = 0) (hr : rvA h x k = 0) : defaultValue t = fdV B o h x c k := by
  unfold fdV
  split
  · rename_i h1
    rw [h1] at ht
    rw [ty_long ht, hj]
    rfl
  · rename_i h1
    rw [h1] at ht
    rw [hr]
    rcases ty_ref ht with ⟨n, rfl⟩ | ⟨n, rfl⟩ <;> rfl
  · rename_i h1 h2
    rw [hi]
    have h1' : fK c k ≠ 1 := h1
    have h2' : fK c k ≠ 2 := h2
    have h3 : tyKd t = 0 ∨ tyKd t = 3 := by omega
    rcases h3 with h3 | h3
    · rw [ty_int h3]; rfl
    · rw [ty_bool h3]; rfl
theorem fK_le : ∀ c, c < 13 → ∀ k, k < fN c → fK c k ≤ 3 := by decide +kernel
theorem inst_ok : ∀ c, c < 13 → Cond.instantiable (RC c) (fN c) ∈ lw_tbl ∧ Cond.initialized (RC c) ∈ lw_tbl := by decide +kernel
theorem nw_i (h : AH) (t n k : Nat) : ivA (nwA h t n) (szA h + 1) k = 0 := congrFun (show (if szA h + 1 = szA h + 1 then (fun _ => (0 : Int32)) else h.2.2.1 (szA h + 1)) = _ from if_pos rfl) k
theorem nw_j (h : AH) (t n k : Nat) : jvA (nwA h t n) (szA h + 1) k = 0 := congrFun (show (if szA h + 1 = szA h + 1 then (fun _ => (0 : Int64)) else h.2.2.2.1 (szA h + 1)) = _ from if_pos rfl) k
theorem nw_r (h : AH) (t n k : Nat) : rvA (nwA h t n) (szA h + 1) k = 0 := congrFun (show (if szA h + 1 = szA h + 1 then (fun _ => (0 : Nat)) else h.2.2.2.2.1 (szA h + 1)) = _ from if_pos rfl) k
theorem nw_k (h : AH) (t n : Nat) : kdA (nwA h t n) (szA h + 1) = t := show (if szA h + 1 = szA h + 1 then t else h.1 (szA h + 1)) = t from if_pos rfl
theorem nw_n (h : AH) (t n : Nat) : lnA (nwA h t n) (szA h + 1) = n := show (if szA h + 1 = szA h + 1 then n else h.2.1 (szA h + 1)) = n from if_pos rfl
theorem sp_new (F : FX B o D ca h0 u p s m args meth c) {i : Nat} (hd : decode (cM u) pc = .ok (.new i, 3)) (hm : nwR (owM u) i (pc + 3) L S h = some (g, .inl (pc', L', S', h'))) (hz0 : z0 ≤ szA h) (hu0 : u0 ≤ usA h) (hc : szA h' ≤ z0 + R.cells) (hs : usA h' ≤ u0 + R.slots) (hsz : szA h' < 1000000) (K : WA p l e R s m args below meth c Q B o D ca h0 u z0 u0 (pc', L', S', h')) : WA p l e R s m args below meth c Q B o D ca h0 u z0 u0 (pc, L, S, h) := by
  obtain ⟨hx, hb, hml, hown, hts, hin, hC, hB⟩ := F
  unfold nwR nxt at hm
  split at hm
  · rename_i cl hcT
    split at hm
    · rename_i hlt
      cases hm
      have hc13 : cl < 13 := Nat.le_of_ble_eq_true hlt
      obtain ⟨pp, hw⟩ := wC hcT
      unfold cWc at hw
      rw [if_neg (by omega), Bool.and_eq_true] at hw
      obtain ⟨hi1, hi2⟩ := inst_ok cl hc13
      change szA h + 1 ≤ z0 + R.cells at hc
      change usA h + fN cl ≤ u0 + R.slots at hs
      change szA h + 1 < 1000000 at hsz
      intro H locs ls hR hL hS
      have hKn := hC.1.1 cl _ (vw_at hc13)
      have hsize : H.size = B + szA h := hR.1
      refine W.newcK hx hb hown (hts _ (gd_of (inT_mem hw.1) rfl)) (hts _ (gd_of hi1 rfl)) (hts _ (gd_of hi2 rfl)) rfl hd (by show szA h - z0 + 1 ≤ R.cells; omega) (by show usA h - u0 + fN cl ≤ R.slots; omega) hKn.2.1 hsize (fun H' kC hkC e1 z1 o1 => ?_)
      have hHR : HR B o D ca h0 (nwA h cl (fN cl)) H' := by
        refine HR_new hR (Or.inl hc13) hsz (by rw [z1, hsize]) (fun q hq => o1 q (by omega)) ?_
        unfold clE
        rw [nw_k, if_pos hc13]
        refine ⟨_, vw_at hc13, (u_born (tyC cl) hts (hin_c hc13) hKn hkC e1 (tyC_ok hc13)).to (fun k hk => ?_)⟩
        rw [fdL_V hk]
        exact def_fd cl k (tyKd_ok cl hc13 k hk) (fK_le cl hc13 k hk) _ (nw_i _ _ _ _) (nw_j _ _ _ _) (nw_r _ _ _ _)
      have hK := K H' locs ls hHR hL ⟨Nat.le_trans hS.1 (by omega), fun q h1 h2 => (o1 q (by have := hS.1; omega)).trans (hS.2.1 q h1 h2), hS.2.2⟩
      simp only [List.map_cons, new_ref hsz] at hK
      refine W.cs ?_ ?_ hK
      · show szA h - z0 + 1 = szA h + 1 - z0; omega
      · show usA h - u0 + fN cl = usA h + fN cl - u0; omega
    · cases hm
  · cases hm
theorem sp_newaP (F : FX B o D ca h0 u p s m args meth c) {a : ArrayType} (hd : decode (cM u) pc = .ok (.newarray a, 2)) (hm : (match Nat.blt (aTk a) 34 with
    | true => nwP (aTk a) (pc + 2) L S h
    | false => none) = some (g, .inl (pc', L', S', h'))) (hg : allG g = true) (hz0 : z0 ≤ szA h) (hu0 : u0 ≤ usA h) (hc : szA h' ≤ z0 + R.cells) (hs : usA h' ≤ u0 + R.slots) (hsz : szA h' < 1000000) (K : WA p l e R s m args below meth c Q B o D ca h0 u z0 u0 (pc', L', S', h')) : WA p l e R s m args below meth c Q B o D ca h0 u z0 u0 (pc, L, S, h) := by
  obtain ⟨hx, hb, hml, hown, hts, hin, hC, hB⟩ := F
  split at hm
  · rename_i hlt
    unfold nwP nxtG at hm
    split at hm
    · rename_i n r
      cases hm
      simp only [allG, okN, Bool.and_true] at hg
      have hn := inB_in hg
      have hnl := inB_lt hg
      change szA h + 1 ≤ z0 + R.cells at hc
      change usA h + ix n ≤ u0 + R.slots at hs
      change szA h + 1 < 1000000 at hsz
      intro H locs ls hR hL hS
      have hsize : H.size = B + szA h := hR.1
      have hw : (Cond.arrayClass (newarray.typeOf a)).before args s = true := by
        refine hts _ (gd_of ?_ rfl)
        cases a <;> first | (exact absurd hlt (by decide)) | skip
        all_goals decide +kernel
      have hcb : componentBytes (newarray.typeOf a) ≤ 8 := by cases a <;> decide
      refine va_newaK hx hb hw rfl hd rfl (fun q => hn (Or.inl q)) (N := ix n) rfl ?_ (by show szA h - z0 + 1 ≤ R.cells; omega) (by show usA h - u0 + ix n ≤ R.slots; omega) hsize (fun H' cA e1 z1 o1 hAr hNm => ?_)
      · have : ix n * componentBytes (newarray.typeOf a) ≤ 1000000 * 8 := Nat.mul_le_mul (by omega) hcb
        omega
      · have hok : okK (aTk a) := by
          cases a <;> first | (exact absurd hlt (by decide)) | (exact Or.inr (Or.inl (by decide)))
        have hca : cA = ca (aTk a) := by
          have hK2 := hC.1.2
          cases a <;> first | (exact absurd hlt (by decide)) | skip
          · exact Option.some.inj (hNm.symm.trans (hK2 4 _ rfl).2)
          · exact Option.some.inj (hNm.symm.trans (hK2 2 _ rfl).2)
          · exact Option.some.inj (hNm.symm.trans (hK2 3 _ rfl).2)
          · exact Option.some.inj (hNm.symm.trans (hK2 0 _ rfl).2)
          · exact Option.some.inj (hNm.symm.trans (hK2 1 _ rfl).2)
        subst hca
        have hHR : HR B o D ca h0 (nwA h (aTk a) (ix n)) H' := by
          refine HR_new hR hok hsz (by rw [z1, hsize]) (fun q hq => o1 q (by omega)) ?_
          have hi : ivA (nwA h (aTk a) (ix n)) (szA h + 1) = fun _ => 0 := funext (nw_i _ _ _)
          have hj : jvA (nwA h (aTk a) (ix n)) (szA h + 1) = fun _ => 0 := funext (nw_j _ _ _)
          unfold clE
          rw [nw_k, nw_n, hi, hj]
          cases a <;> first | (exact absurd hlt (by decide)) | exact e1
        have hK := K H' locs ls hHR hL ⟨Nat.le_trans hS.1 (by omega), fun q h1 h2 => (o1 q (by have := hS.1; omega)).trans (hS.2.1 q h1 h2), hS.2.2⟩
        simp only [List.map_cons, new_ref hsz] at hK
        refine W.cs ?_ ?_ hK
        · show szA h - z0 + 1 = szA h + 1 - z0; omega
        · show usA h - u0 + ix n = usA h + ix n - u0; omega
    · cases hm
  · cases hm
end STP
