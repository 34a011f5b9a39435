/-! fields -/
theorem vw_at {c : Nat} (h : c < 13) : vwCl[c]? = some (RC c, TC c, fN c) := by
  have h2 : c = 0 ∨ c = 1 ∨ c = 2 ∨ c = 3 ∨ c = 4 ∨ c = 5 ∨ c = 6 ∨ c = 7 ∨ c = 8 ∨ c = 9 ∨ c = 10 ∨ c = 11 ∨ c = 12 := by omega
  rcases h2 with rfl | rfl | rfl | rfl | rfl | rfl | rfl | rfl | rfl | rfl | rfl | rfl | rfl <;> rfl
theorem hin_0 : ∀ w ∈ u_ws RX0 TX0 7, w ∈ lw_tbl := by decide +kernel
theorem hin_1 : ∀ w ∈ u_ws RX1 TX1 3, w ∈ lw_tbl := by decide +kernel
theorem hin_2 : ∀ w ∈ u_ws RX2 TX2 3, w ∈ lw_tbl := by decide +kernel
theorem hin_3 : ∀ w ∈ u_ws RX3 TX3 5, w ∈ lw_tbl := by decide +kernel
theorem hin_4 : ∀ w ∈ u_ws RX4 TX4 20, w ∈ lw_tbl := by decide +kernel
theorem hin_5 : ∀ w ∈ u_ws RX5 TX5 5, w ∈ lw_tbl := by decide +kernel
theorem hin_6 : ∀ w ∈ u_ws RX6 TX6 14, w ∈ lw_tbl := by decide +kernel
theorem hin_7 : ∀ w ∈ u_ws RX7 TX7 4, w ∈ lw_tbl := by decide +kernel
theorem hin_8 : ∀ w ∈ u_ws RX8 TX8 14, w ∈ lw_tbl := by decide +kernel
theorem hin_9 : ∀ w ∈ u_ws RX9 TX9 6, w ∈ lw_tbl := by decide +kernel
theorem hin_10 : ∀ w ∈ u_ws RX10 TX10 3, w ∈ lw_tbl := by decide +kernel
theorem hin_11 : ∀ w ∈ u_ws RX11 TX11 14, w ∈ lw_tbl := by decide +kernel
theorem hin_12 : ∀ w ∈ u_ws RX12 TX12 31, w ∈ lw_tbl := by decide +kernel
theorem hin_c {c : Nat} (h : c < 13) : ∀ w ∈ u_ws (RC c) (TC c) (fN c), w ∈ lw_gd := by
  have h2 : c = 0 ∨ c = 1 ∨ c = 2 ∨ c = 3 ∨ c = 4 ∨ c = 5 ∨ c = 6 ∨ c = 7 ∨ c = 8 ∨ c = 9 ∨ c = 10 ∨ c = 11 ∨ c = 12 := by omega
  have key : ∀ (C : String) (T : u_T) (N : Nat), (∀ w ∈ u_ws C T N, w ∈ lw_tbl) → ∀ w ∈ u_ws C T N, w ∈ lw_gd := by
    intro C T N h w hw
    refine gd_of (h w hw) ?_
    obtain ⟨k, -, rfl⟩ := List.mem_map.mp hw
    unfold u_lay
    split <;> rfl
  rcases h2 with rfl | rfl | rfl | rfl | rfl | rfl | rfl | rfl | rfl | rfl | rfl | rfl | rfl
  · exact key _ _ _ hin_0
  · exact key _ _ _ hin_1
  · exact key _ _ _ hin_2
  · exact key _ _ _ hin_3
  · exact key _ _ _ hin_4
  · exact key _ _ _ hin_5
  · exact key _ _ _ hin_6
  · exact key _ _ _ hin_7
  · exact key _ _ _ hin_8
  · exact key _ _ _ hin_9
  · exact key _ _ _ hin_10
  · exact key _ _ _ hin_11
  · exact key _ _ _ hin_12
theorem tyC_ok {c : Nat} (h : c < 13) : ∀ k, k < fN c → parseFieldDescriptor (TC c k).2.2.1 = some (tyC c k) := by
  have h2 : c = 0 ∨ c = 1 ∨ c = 2 ∨ c = 3 ∨ c = 4 ∨ c = 5 ∨ c = 6 ∨ c = 7 ∨ c = 8 ∨ c = 9 ∨ c = 10 ∨ c = 11 ∨ c = 12 := by omega
  rcases h2 with rfl | rfl | rfl | rfl | rfl | rfl | rfl | rfl | rfl | rfl | rfl | rfl | rfl
  · exact tyX0_ok
  · exact tyX1_ok
  · exact tyX2_ok
  · exact tyX3_ok
  · exact tyX4_ok
  · exact tyX5_ok
  · exact tyX6_ok
  · exact tyX7_ok
  · exact tyX8_ok
  · exact tyX9_ok
  · exact tyX10_ok
  · exact tyX11_ok
  · exact tyX12_ok
theorem nmC {c : Nat} (h : c < 13) : ∀ a, a < fN c → ∀ b, b < fN c → a ≠ b → (TC c a).2.1 ≠ (TC c b).2.1 := by
  have h2 : c = 0 ∨ c = 1 ∨ c = 2 ∨ c = 3 ∨ c = 4 ∨ c = 5 ∨ c = 6 ∨ c = 7 ∨ c = 8 ∨ c = 9 ∨ c = 10 ∨ c = 11 ∨ c = 12 := by omega
  rcases h2 with rfl | rfl | rfl | rfl | rfl | rfl | rfl | rfl | rfl | rfl | rfl | rfl | rfl
  · exact nmX0
  · exact nmX1
  · exact nmX2
  · exact nmX3
  · exact nmX4
  · exact nmX5
  · exact nmX6
  · exact nmX7
  · exact nmX8
  · exact nmX9
  · exact nmX10
  · exact nmX11
  · exact nmX12
def tyKd (t : FieldType) : Nat := match t with
  | .int => 0
  | .long => 1
  | .boolean => 3
  | .object _ => 2
  | .array _ => 2
  | _ => 8
theorem tyKd_ok : ∀ c, c < 13 → ∀ k, k < fN c → tyKd (tyC c k) = fK c k := by decide +kernel
theorem ty_int {t : FieldType} (h : tyKd t = 0) : t = .int := by cases t <;> first | rfl | cases h
theorem ty_long {t : FieldType} (h : tyKd t = 1) : t = .long := by cases t <;> first | rfl | cases h
theorem ty_bool {t : FieldType} (h : tyKd t = 3) : t = .boolean := by cases t <;> first | rfl | cases h
theorem ty_ref {t : FieldType} (h : tyKd t = 2) : (∃ n, t = .object n) ∨ ∃ x, t = .array x := by
  cases t <;> first | exact Or.inl ⟨_, rfl⟩ | exact Or.inr ⟨_, rfl⟩ | cases h
theorem nar_ref {t : FieldType} (h : tyKd t = 2) (r : Option Nat) : narrow t (va_rf r) = va_rf r ∧ fits t (va_rf r) = true := by
  rcases ty_ref h with ⟨n, rfl⟩ | ⟨x, rfl⟩ <;> cases r <;> exact ⟨rfl, rfl⟩
theorem fdL_get {B : Nat} {o : Nat → Nat} {h : AH} {x c k : Nat} (hk : k < fN c) : (fdL B o h x c)[k]? = some (fdV B o h x c k) := by
  unfold fdL
  rw [List.getElem?_map, List.getElem?_range hk]
  rfl
theorem fdL_V {B : Nat} {o : Nat → Nat} {h : AH} {x c k : Nat} (hk : k < fN c) : vp_V (fdL B o h x c) k = fdV B o h x c k := by
  unfold vp_V
  rw [List.getD_eq_getElem?_getD, fdL_get hk]
  rfl
theorem own_at {B : Nat} {o : Nat → Nat} {D : va_G} {ca : Nat → ClassId} {h0 h : AH} {H : Heap} (hR : HR B o D ca h0 h H) {x c : Nat} (hk : kdA h x = c) (hc : c < 13) :
    (1 ≤ x ∧ x ≤ szA h) ∧ tV B o (.ref x) = .ref (B + (x - 1)) ∧ va_at D vwCl (B + (x - 1), .inr (c, fdL B o h x c)) H := by
  obtain ⟨h1, h2, h3, h4⟩ := okK_own hR.2.2.1 (x := x) (by rw [hk]; exact Or.inl hc)
  refine ⟨⟨h1, h2⟩, by rw [tV_r B o h4, adA_own B o h3], ?_⟩
  have h5 := hR.2.1 x h1 h2
  unfold clE at h5
  rw [hk, if_pos hc] at h5
  exact h5
theorem own_arr {B : Nat} {o : Nat → Nat} {D : va_G} {ca : Nat → ClassId} {h0 h : AH} {H : Heap} (hR : HR B o D ca h0 h H) {x t : Nat} (hk : kdA h x = t) (hc : t = 20 ∨ t = 22 ∨ t = 23 ∨ t = 24) :
    (1 ≤ x ∧ x ≤ szA h) ∧ tV B o (.ref x) = .ref (B + (x - 1)) ∧ H[B + (x - 1)]? = some (vp_cell (ca t) (lnA h x, .inl (ivA h x))) := by
  obtain ⟨h1, h2, h3, h4⟩ := okK_own hR.2.2.1 (x := x) (by rw [hk]; exact Or.inr (Or.inl (by omega)))
  refine ⟨⟨h1, h2⟩, by rw [tV_r B o h4, adA_own B o h3], ?_⟩
  have h5 := hR.2.1 x h1 h2
  unfold clE at h5
  rw [hk, if_neg (by omega), if_neg (by omega), if_neg (by omega)] at h5
  exact h5
theorem own_arrJ {B : Nat} {o : Nat → Nat} {D : va_G} {ca : Nat → ClassId} {h0 h : AH} {H : Heap} (hR : HR B o D ca h0 h H) {x : Nat} (hk : kdA h x = 21) :
    (1 ≤ x ∧ x ≤ szA h) ∧ tV B o (.ref x) = .ref (B + (x - 1)) ∧ H[B + (x - 1)]? = some (vp_cell (ca 21) (lnA h x, .inr (.inl (jvA h x)))) := by
  obtain ⟨h1, h2, h3, h4⟩ := okK_own hR.2.2.1 (x := x) (by rw [hk]; exact Or.inr (Or.inl (by omega)))
  refine ⟨⟨h1, h2⟩, by rw [tV_r B o h4, adA_own B o h3], ?_⟩
  have h5 := hR.2.1 x h1 h2
  unfold clE at h5
  rw [hk, if_neg (by omega), if_pos rfl] at h5
  exact h5
theorem own_arrR {B : Nat} {o : Nat → Nat} {D : va_G} {ca : Nat → ClassId} {h0 h : AH} {H : Heap} (hR : HR B o D ca h0 h H) {x t : Nat} (hk : kdA h x = t) (hc : 30 ≤ t ∧ t ≤ 33) :
    (1 ≤ x ∧ x ≤ szA h) ∧ tV B o (.ref x) = .ref (B + (x - 1)) ∧ H[B + (x - 1)]? = some (vp_cell (ca t) (lnA h x, .inr (.inr (.inr (.inr (fun j => tN B o (rvA h x j))))))) := by
  obtain ⟨h1, h2, h3, h4⟩ := okK_own hR.2.2.1 (x := x) (by rw [hk]; exact Or.inr (Or.inr hc))
  refine ⟨⟨h1, h2⟩, by rw [tV_r B o h4, adA_own B o h3], ?_⟩
  have h5 := hR.2.1 x h1 h2
  unfold clE at h5
  rw [hk, if_neg (by omega), if_neg (by omega), if_pos (by omega)] at h5
  exact h5
section STP
variable {p : Program} {l : Launch} {e : Env} {R : Room} {s : State} {m : MethodId} {args : Array Value} {below : List Frame} {meth : Method} {c : Code} {Q : State → Prop} {B : Nat} {o : Nat → Nat} {D : va_G} {ca : Nat → ClassId} {h0 : AH} {u z0 u0 : Nat} {pc pc' : Nat} {L L' S S' : List Value} {h h' : AH} {g : List Bool}
theorem gf_core (F : FX B o D ca h0 u p s m args meth c) {i f x : Nat} {rest : List Value} {v : Value} (hd : decode (cM u) pc = .ok (.getfield i, 3)) (hf : fT (owM u) i = some f) (hk : kdA h x = f / 64) (hv : v = if f / 64 < 13 then fdV B o h x (f / 64) (f % 64) else if f = 832 then va_rf (tN B o (rvA h x 0)) else .int (ivA h x 1))
    {H : Heap} {locs : List Loc} {ls : Array Slot} {cells slots : Nat} (hR : HR B o D ca h0 h H) (hS : va_S (owA B) s.heap H locs) (K : W p l e R s m args below meth c H locs cells slots Q (F0 m (pc + 3) ls (v :: rest))) : W p l e R s m args below meth c H locs cells slots Q (F0 m pc ls (tV B o (.ref x) :: rest)) := by
  obtain ⟨hx, hb, hml, hown, hts, hin, hC, hB⟩ := F
  obtain ⟨pp, hw⟩ := wF hf
  unfold fWc at hw
  by_cases hc : f / 64 < 13
  · rw [if_pos hc, Bool.and_eq_true, decide_eq_true_eq] at hw
    obtain ⟨hw1, hw2⟩ := hw
    rw [if_pos hc] at hv
    obtain ⟨-, ht, hat⟩ := own_at hR hk hc
    rw [ht]
    have hP : va_P D vwCl [(B + (x - 1), .inr (f / 64, fdL B o h x (f / 64)))] H := by
      intro k q hq
      cases k with
      | zero => cases hq; exact hat
      | succ k => cases hq
    exact va_get hx hb hts (hin_c hc) hown hC.1 hP 0 rfl (vw_at hc) (f % 64) hw2 (hts _ (gd_of (inT_mem hw1) rfl)) (fun _ h => h) (v := v) (by rw [hv]; exact fdL_get hw2) hd K
  · rw [if_neg hc] at hw hv
    have hkk : f = 832 ∨ f = 833 := by
      by_cases h1 : f = 832
      · exact Or.inl h1
      · rw [if_neg h1] at hw
        by_cases h2 : f = 833
        · exact Or.inr h2
        · rw [if_neg h2] at hw; cases hw
    have hk13 : kdA h x = 13 := by rw [hk]; omega
    have hxo := hR.2.2.1.2.1 x (Or.inl hk13)
    obtain ⟨o1, o2, o3, o4⟩ := hR.2.2.2 x hxo
    obtain ⟨d1, d2, d3⟩ := hC.2.2.2.2.1 x hxo (by rw [← o1]; exact hk13)
    rw [tV_r B o (by omega), adA_out B o hxo]
    rcases hkk with rfl | rfl
    · rw [if_pos rfl] at hw hv
      rw [o4] at hv
      subst hv
      exact vk_getf hx hb d3 hS hown (hts _ (gd_of (inT_mem hw) rfl)) (fun _ h => h) hd K
    · rw [if_neg (by decide), if_pos rfl] at hw
      rw [if_neg (by decide), o3] at hv
      subst hv
      exact vk_getf hx hb d2 hS hown (hts _ (gd_of (inT_mem hw) rfl)) (fun _ h => h) hd K
theorem fK_13 (k : Nat) : fK 13 k = if k = 0 then 2 else if k = 1 then 0 else 9 := by
  match k with
  | 0 => rfl
  | 1 => rfl
  | k + 2 => rfl
theorem sp_gfR (F : FX B o D ca h0 u p s m args meth c) {i : Nat} (hd : decode (cM u) pc = .ok (.getfield i, 3)) (hm : gfR (owM u) i (pc + 3) L S h = some (g, .inl (pc', L', S', h'))) (hg : allG g = true) (K : WA p l e R s m args below meth c Q B o D ca h0 u z0 u0 (pc', L', S', h')) : WA p l e R s m args below meth c Q B o D ca h0 u z0 u0 (pc, L, S, h) := by
  unfold gfR nxtG at hm
  split at hm
  · rename_i f x r hf
    obtain ⟨pp, hw⟩ := wF hf
    unfold fWc at hw
    have hs : f / 64 < 13 ∨ f = 832 ∨ f = 833 := by
      by_cases hc : f / 64 < 13
      · exact Or.inl hc
      · rw [if_neg hc] at hw
        by_cases h1 : f = 832
        · exact Or.inr (Or.inl h1)
        · rw [if_neg h1] at hw
          by_cases h2 : f = 833
          · exact Or.inr (Or.inr h2)
          · rw [if_neg h2] at hw; cases hw
    split at hm
    · rename_i hK
      cases hm
      simp only [allG, Bool.and_true, decide_eq_true_eq] at hg
      intro H locs ls hR hL hS
      refine gf_core F hd hf hg ?_ hR hS (K H locs ls hR hL hS)
      rcases hs with hs | rfl | rfl
      · rw [if_pos hs]; unfold fdV; rw [hK]; rfl
      · cases hK
      · cases hK
    · rename_i hK
      cases hm
      simp only [allG, Bool.and_true, decide_eq_true_eq] at hg
      intro H locs ls hR hL hS
      refine gf_core F hd hf hg ?_ hR hS (K H locs ls hR hL hS)
      rcases hs with hs | rfl | rfl
      · rw [if_pos hs]; unfold fdV; rw [hK]; rfl
      · rfl
      · cases hK
    · cases hm
    · rename_i h1 h2 h3
      cases hm
      simp only [allG, Bool.and_true, decide_eq_true_eq] at hg
      intro H locs ls hR hL hS
      refine gf_core F hd hf hg ?_ hR hS (K H locs ls hR hL hS)
      rcases hs with hs | rfl | rfl
      · rw [if_pos hs]; unfold fdV
        split
        · rename_i hh; exact absurd hh h1
        · rename_i hh; exact absurd hh h2
        · rfl
      · exact absurd rfl h2
      · rfl
  · cases hm
theorem pf_core (F : FX B o D ca h0 u p s m args meth c) {i f x : Nat} {rest : List Value} {v : Value} (hd : decode (cM u) pc = .ok (.putfield i, 3)) (hf : fT (owM u) i = some f) (hc : f / 64 < 13) (hfin : (TC (f / 64) (f % 64)).2.2.2 = true → kdM u = 2 ∧ owM u = f / 64 ∧ (TC (f / 64) (f % 64)).1 = RC (f / 64)) (hk : kdA h x = f / 64)
    (hn : narrow (tyC (f / 64) (f % 64)) v = v) (hfit : fits (tyC (f / 64) (f % 64)) v = true)
    (hz : szA h' = szA h) (hk' : ∀ y, kdA h' y = kdA h y) (hn' : ∀ y, lnA h' y = lnA h y) (hi' : ∀ y, y ≠ x → ∀ k, ivA h' y k = ivA h y k) (hj' : ∀ y, y ≠ x → ∀ k, jvA h' y k = jvA h y k) (hr' : ∀ y, y ≠ x → ∀ k, rvA h' y k = rvA h y k)
    (hv : ∀ j, j < fN (f / 64) → fdV B o h' x (f / 64) j = if j = f % 64 then v else fdV B o h x (f / 64) j)
    {H : Heap} {locs : List Loc} {ls : Array Slot} {cells slots : Nat} (hR : HR B o D ca h0 h H) (hS : va_S (owA B) s.heap H locs)
    (K : ∀ (H' : Heap) (locs' : List Loc), HR B o D ca h0 h' H' → va_S (owA B) s.heap H' locs' → W p l e R s m args below meth c H' locs' cells slots Q (F0 m (pc + 3) ls rest)) : W p l e R s m args below meth c H locs cells slots Q (F0 m pc ls (v :: tV B o (.ref x) :: rest)) := by
  obtain ⟨hx, hb, hml, hown, hts, hin, hC, hB⟩ := F
  obtain ⟨pp, hw⟩ := wF hf
  unfold fWc at hw
  rw [if_pos hc, Bool.and_eq_true, decide_eq_true_eq] at hw
  obtain ⟨hw1, hw2⟩ := hw
  obtain ⟨hx1, ht, hat⟩ := own_at hR hk hc
  rw [ht]
  obtain ⟨r, e1, cell, q1, q2, q3, q4⟩ := hat
  have hr : r = (RC (f / 64), TC (f / 64), fN (f / 64)) := Option.some.inj (e1.symm.trans (vw_at hc))
  subst hr
  have hap := va_apart (own := "") hts (hin_c hc) (tyC (f / 64)) (tyC_ok hc) (nmC hc) hC.1 (vw_at hc)
  obtain ⟨hSl, hfc, kC, hkC, hkind⟩ := hC.1.1 (f / 64) _ (vw_at hc)
  obtain ⟨cf, kf, fi, fd, hi, hsl⟩ := hSl (f % 64) hw2
  have hlay := hts _ (hin_c hc _ (u_in_lay hw2))
  have hst := (u_facts hfc hkC (u_lays hts (hin_c hc) hw2) hi).1
  have fin : ∀ (H' : Heap) (lc : Loc), lc.base = B + (x - 1) → H'[B + (x - 1)]? = some (cell.setSlot fd.slot v) → H'.size = H.size → (∀ q, q ≠ B + (x - 1) → H'[q]? = H[q]?) → W p l e R s m args below meth c H' (locs ++ [lc]) cells slots Q (F0 m (pc + 3) ls rest) := by
    intro H' lc hlc g1 g2 g3
    rw [hsl] at g1
    refine K H' _ (HR_set hR hx1 hz hk' hn' hi' hj' hr' g2 g3 ?_) ?_
    · unfold clE
      rw [hk', hk, if_pos hc]
      refine ⟨_, vw_at hc, t_OB.to (V := updV (vp_V (fdL B o h x (f / 64))) (f % 64) v) ⟨_, g1, q2, q3, t_set q4 hap hw2 v⟩ (fun j hj => ?_)⟩
      rw [fdL_V hj, hv j hj]
      unfold updV
      split
      · rfl
      · exact fdL_V hj
    · obtain ⟨lb, lk⟩ := lc
      cases hlc
      exact hS.put g2 g3 (Nat.le_add_right _ _)
  by_cases hfi : (TC (f / 64) (f % 64)).2.2.2 = true
  · unfold u_lay at hlay
    rw [if_pos hfi] at hlay
    obtain ⟨hu1, hu2, hu3⟩ := hfin hfi
    have hcf : m.cls = cf := by
      obtain ⟨_, _, c', _, _, _, -, -, hf', -, -, -, hown2, -⟩ := Cond.laysFinal_spec hlay
      have e1 : c' = cf := by have := hi.symm.trans hf'; simp at this; exact this.1.symm
      rw [hu3, ← hu2] at hown2
      rw [← e1]; exact Option.some.inj (hown.symm.trans hown2)
    have h6 := u_fits hfc hkC hkind (Or.inr hlay) hi (tyC_ok hc _ hw2) hn hfit
    exact W.putFinK hx hb hown (hts _ (gd_of (inT_mem hw1) rfl)) hi hst hcf (hin hu1) (by rw [q2]; exact h6) q1 q3 (by rw [hsl]; exact k2_hasslot (q4 _ hw2)) rfl rfl hd (fun H' g1 g2 g3 => fin H' _ rfl g1 g2 g3)
  · unfold u_lay at hlay
    rw [if_neg hfi] at hlay
    have h6 := u_store hfc hkC hkind hlay hi (tyC_ok hc _ hw2) hn hfit
    exact W.putK hx hb (f := fd) ⟨hown, hts _ (gd_of (inT_mem hw1) rfl), ⟨_, _, _, hi⟩, hst⟩ (by rw [q2]; exact h6) q1 q3 (by rw [hsl]; exact k2_hasslot (q4 _ hw2)) rfl rfl hd (fun H' g1 g2 g3 => fin H' _ rfl g1 g2 g3)
end STP
