/-! branches and switches -/
theorem kI_eq {x : Int32} {k : Int} (h1 : -2147483648 ≤ k) (h2 : k ≤ 2147483647) : x = kI k ↔ x.toInt = k := by
  constructor
  · intro h
    rw [h]
    exact Int32.toInt_ofInt_of_le (by omega) (by omega)
  · intro h
    apply Int32.toInt_inj.mp
    rw [h]
    exact (Int32.toInt_ofInt_of_le (by omega) (by omega)).symm
theorem swT_P {pc : Nat} (x : Int32) (d : Nat) : ∀ (os : List Int) (lo : Int) (r : List (Int × Nat)), swP pc lo os = some r → -2147483648 ≤ lo → lo + os.length ≤ 2147483648 →
    (∀ j : Nat, x.toInt = lo + j → j < os.length → ∃ off, os[j]? = some off ∧ (pc : Int) + off = (swT x r d : Int)) ∧ ((x.toInt < lo ∨ lo + os.length ≤ x.toInt) → swT x r d = d)
  | [], lo, r, h, _, _ => by
    cases h
    exact ⟨fun j _ hj => by simp at hj, fun _ => rfl⟩
  | w :: os, lo, r, h, h1, h2 => by
    unfold swP at h
    split at h
    · rename_i t r' ht hr
      cases h
      have hlen : ((w :: os).length : Int) = os.length + 1 := by simp
      obtain ⟨i1, i2⟩ := swT_P x d os (lo + 1) r' hr (by omega) (by omega)
      have e0 : (x = kI lo) ↔ x.toInt = lo := kI_eq h1 (by omega)
      constructor
      · intro j hj hlt
        cases j with
        | zero =>
          refine ⟨w, rfl, ?_⟩
          unfold swT
          rw [if_pos (decide_eq_true (e0.mpr (by omega)))]
          exact ht
        | succ j =>
          obtain ⟨off, q1, q2⟩ := i1 j (by omega) (by simpa using hlt)
          refine ⟨off, q1, ?_⟩
          unfold swT
          rw [if_neg (by rw [decide_eq_true_eq]; intro hx; have := e0.mp hx; omega)]
          exact q2
      · intro hx
        unfold swT
        rw [if_neg (by rw [decide_eq_true_eq]; intro hx2; have := e0.mp hx2; omega)]
        exact i2 (by omega)
    · cases h
theorem swT_Q {pc : Nat} (x : Int32) (dflt : Int) (d : Nat) (hd : (pc : Int) + dflt = (d : Int)) : ∀ (os : List (Int × Int)) (r : List (Int × Nat)), swQ pc os = some r → os.all (fun q => decide (-2147483648 ≤ q.1) && decide (q.1 ≤ 2147483647)) = true → (pc : Int) + lookupswitch.offset os dflt x.toInt = (swT x r d : Int)
  | [], r, h, _ => by
    cases h
    exact hd
  | (k, w) :: os, r, h, ha => by
    unfold swQ at h
    split at h
    · rename_i t r' ht hr
      cases h
      simp only [List.all_cons, Bool.and_eq_true, decide_eq_true_eq] at ha
      have e0 : (x = kI k) ↔ x.toInt = k := kI_eq ha.1.1 ha.1.2
      have ih := swT_Q x dflt d hd os r' hr ha.2
      show (pc : Int) + (if k = x.toInt then w else lookupswitch.offset os dflt x.toInt) = _
      unfold swT
      by_cases e : x.toInt = k
      · rw [if_pos e.symm, if_pos (decide_eq_true (e0.mpr e))]
        exact ht
      · rw [if_neg (fun q => e q.symm), if_neg (by rw [decide_eq_true_eq]; exact fun q => e (e0.mp q))]
        exact ih
    · cases h
theorem tN_inj {B : Nat} {o : Nat → Nat} {x y : Nat} (hx : x < 1000000) (hy : y < 1000000) : tN B o x = tN B o y ↔ x = y := by
  constructor
  · intro h
    unfold tN at h
    by_cases e1 : x = 0
    · by_cases e2 : y = 0
      · omega
      · rw [if_pos e1, if_neg e2] at h; cases h
    · by_cases e2 : y = 0
      · rw [if_neg e1, if_pos e2] at h; cases h
      · rw [if_neg e1, if_neg e2, adA_own B o hx, adA_own B o hy] at h
        have := Option.some.inj h
        omega
  · intro h; rw [h]
section STP
variable {p : Program} {l : Launch} {e : Env} {R : Room} {s : State} {m : MethodId} {args : Array Value} {below : List Frame} {meth : Method} {c : Code} {Q : State → Prop} {B : Nat} {o : Nat → Nat} {D : va_G} {ca : Nat → ClassId} {h0 : AH} {u z0 u0 : Nat} {pc pc' : Nat} {L L' S S' : List Value} {h h' : AH} {g : List Bool}
theorem sp_br {P : Prop} [hP : Decidable P] {t n : Nat} {b : Bool} (hb : b = decide P) (row : ∀ (H : Heap) (locs : List Loc) (ls : Array Slot) (cells slots : Nat), (P → W p l e R s m args below meth c H locs cells slots Q (F0 m t ls (S'.map (tV B o)))) → (¬ P → W p l e R s m args below meth c H locs cells slots Q (F0 m n ls (S'.map (tV B o)))) → W p l e R s m args below meth c H locs cells slots Q (F0 m pc ls (S.map (tV B o))))
    (K : WA p l e R s m args below meth c Q B o D ca h0 u z0 u0 (bif b then t else n, L, S', h)) : WA p l e R s m args below meth c Q B o D ca h0 u z0 u0 (pc, L, S, h) := by
  subst hb
  intro H locs ls hR hL hS
  have hK := K H locs ls hR hL hS
  refine row _ _ _ _ _ (fun hp => ?_) (fun hp => ?_)
  · rw [decide_eq_true hp] at hK
    exact hK
  · rw [decide_eq_false hp] at hK
    exact hK
theorem sp_brN {P : Prop} [hP : Decidable P] {t n : Nat} {b : Bool} (hb : b = !decide P) (row : ∀ (H : Heap) (locs : List Loc) (ls : Array Slot) (cells slots : Nat), (¬ P → W p l e R s m args below meth c H locs cells slots Q (F0 m t ls (S'.map (tV B o)))) → (P → W p l e R s m args below meth c H locs cells slots Q (F0 m n ls (S'.map (tV B o)))) → W p l e R s m args below meth c H locs cells slots Q (F0 m pc ls (S.map (tV B o))))
    (K : WA p l e R s m args below meth c Q B o D ca h0 u z0 u0 (bif b then t else n, L, S', h)) : WA p l e R s m args below meth c Q B o D ca h0 u z0 u0 (pc, L, S, h) := by
  subst hb
  intro H locs ls hR hL hS
  have hK := K H locs ls hR hL hS
  refine row _ _ _ _ _ (fun hp => ?_) (fun hp => ?_)
  · rw [decide_eq_false hp] at hK
    exact hK
  · rw [decide_eq_true hp] at hK
    exact hK
theorem sp_nn (hx : p.tables.exec = Jvm.exec) (hb : c.code = cM u) {y t : Nat} {r : List Value} {z : Int} (hd : decode (cM u) pc = .ok (.ifnonnull z, 3)) (ht : (pc : Int) + z = (t : Int)) (K : WA p l e R s m args below meth c Q B o D ca h0 u z0 u0 (bif !decide (y = 0) then t else pc + 3, L, r, h)) : WA p l e R s m args below meth c Q B o D ca h0 u z0 u0 (pc, L, .ref y :: r, h) := by
  intro H locs ls hR hL hS
  have hK := K H locs ls hR hL hS
  show W p l e R s m args below meth c H locs _ _ Q (F0 m pc ls (tV B o (.ref y) :: r.map (tV B o)))
  by_cases e0 : y = 0
  · subst e0
    exact lv_ifnonnullN hx hb hd hK
  · rw [tV_r B o e0]
    simp only [e0, decide_false, Bool.not_false, cond_true] at hK
    exact lv_ifnonnull hx hb hd ht hK
set_option maxHeartbeats 4000000 in
theorem step_br (F : FX B o D ca h0 u p s m args meth c) {i : Instr} {k : Nat} (hd : decode (cM u) pc = .ok (i, k)) (hk : okLen i k = true) {b : Bool} {t : Nat} (hm : mstep (owM u) (rtM u) i pc k L S h = some (g, .inr (.inl (b, t, pc', L', S', h')))) (hg : allG g = true)
    (K : WA p l e R s m args below meth c Q B o D ca h0 u z0 u0 (bif b then t else pc', L', S', h')) : WA p l e R s m args below meth c Q B o D ca h0 u z0 u0 (pc, L, S, h) := by
  obtain ⟨hx, hb, hml, hown, hts, hin, hC, hB⟩ := id F
  cases i
  case ifCond cc z =>
    obtain rfl : k = 3 := eq_of_beq hk
    simp only [mstep, brn] at hm
    split at hm
    · split at hm
      · rename_i x r t' ht
        cases hm
        cases cc
        · exact sp_br rfl (fun _ _ _ _ _ kt kf => lv_if_eq hx hb hd ht kt kf) K
        · exact sp_br (by simp [cI1]) (fun _ _ _ _ _ kt kf => lv_if_ne hx hb hd ht kt (fun q => kf (fun z => z q))) K
        · exact sp_br rfl (fun _ _ _ _ _ kt kf => lv_if_lt hx hb hd ht kt kf) K
        · exact sp_br rfl (fun _ _ _ _ _ kt kf => lv_if_ge hx hb hd ht kt kf) K
        · exact sp_br rfl (fun _ _ _ _ _ kt kf => lv_if_gt hx hb hd ht kt kf) K
        · exact sp_br rfl (fun _ _ _ _ _ kt kf => lv_if_le hx hb hd ht kt kf) K
      · cases hm
    · cases hm
  case if_icmp cc z =>
    obtain rfl : k = 3 := eq_of_beq hk
    simp only [mstep, brn] at hm
    split at hm
    · split at hm
      · rename_i y x r t' ht
        cases hm
        cases cc
        · exact sp_br rfl (fun _ _ _ _ _ kt kf => lv_icmp_eq hx hb hd ht kt kf) K
        · exact sp_br (by simp [cI2]) (fun _ _ _ _ _ kt kf => lv_icmp_ne hx hb hd ht kt (fun q => kf (fun z => z q))) K
        · exact sp_br rfl (fun _ _ _ _ _ kt kf => lv_icmp_lt hx hb hd ht kt kf) K
        · exact sp_br rfl (fun _ _ _ _ _ kt kf => lv_icmp_ge hx hb hd ht kt kf) K
        · exact sp_br rfl (fun _ _ _ _ _ kt kf => lv_icmp_gt hx hb hd ht kt kf) K
        · exact sp_br rfl (fun _ _ _ _ _ kt kf => lv_icmp_le hx hb hd ht kt kf) K
      · cases hm
    · cases hm
  case if_acmp cc z =>
    obtain rfl : k = 3 := eq_of_beq hk
    simp only [mstep, brnG] at hm
    split at hm
    · cases cc
      · dsimp only at hm
        split at hm
        · rename_i y x r t' ht
          cases hm
          simp only [allG, Bool.and_true, Bool.and_eq_true, decide_eq_true_eq] at hg
          exact sp_br rfl (fun _ _ _ _ _ kt kf => lv_acmp_eq hx hb hd ht (fun q => kt ((tN_inj hg.1 hg.2).mp q)) (fun q => kf (fun z => q ((tN_inj hg.1 hg.2).mpr z)))) K
        · cases hm
      · dsimp only at hm
        split at hm
        · rename_i y x r t' ht
          cases hm
          simp only [allG, Bool.and_true, Bool.and_eq_true, decide_eq_true_eq] at hg
          exact sp_brN rfl (fun _ _ _ _ _ kt kf => lv_acmp_ne hx hb hd ht (fun q => kt (fun z => q ((tN_inj hg.1 hg.2).mpr z))) (fun q => kf ((tN_inj hg.1 hg.2).mp q))) K
        · cases hm
    · cases hm
  case ifnonnull z =>
    obtain rfl : k = 3 := eq_of_beq hk
    simp only [mstep, brn] at hm
    split at hm
    · split at hm
      · rename_i x r t' ht
        cases hm
        exact sp_nn hx hb hd ht K
      · cases hm
    · cases hm
  all_goals first
    | (cases hm; done)
    | (simp only [mstep, alR, asR, nxt, nxtG, ldI, ldJ, ldR, slI, slJ, slR, nwQ, nwP, nwR, lnR, alI, alJ, asI, asB, asJ, inJ, gfR, pfR, gsR, jmp, uI, bI, dI, bJ, dJ, sJ, icI, isp, ins, mthI, mthJ, inv, cll, swM, rtI] at hm; (repeat' (split at hm)) <;> cases hm; done)
theorem step_sw (F : FX B o D ca h0 u p s m args meth c) {i : Instr} {k : Nat} (hd : decode (cM u) pc = .ok (i, k)) (hk : okLen i k = true) {x : Int32} {ps : List (Int × Nat)} {dt : Nat} (hm : mstep (owM u) (rtM u) i pc k L S h = some (g, .inr (.inr (.inl (x, ps, dt, L', S', h')))))
    (K : WA p l e R s m args below meth c Q B o D ca h0 u z0 u0 (swT x ps dt, L', S', h')) : WA p l e R s m args below meth c Q B o D ca h0 u z0 u0 (pc, L, S, h) := by
  obtain ⟨hx, hb, hml, hown, hts, hin, hC, hB⟩ := id F
  cases i
  case tableswitch d lo hi os =>
    simp only [mstep] at hm
    simp only [okLen, Bool.and_eq_true, decide_eq_true_eq] at hk
    split at hm
    · split at hm
      · rename_i hh
        have hhi : hi = lo + os.size - 1 := of_decide_eq_true hh
        unfold swM at hm
        split at hm
        · rename_i r t hr ht
          cases hm
          have hsz : (os.toList.length : Int) = os.size := by simp
          obtain ⟨i1, i2⟩ := swT_P x dt os.toList lo ps hr hk.1 (by omega)
          intro H locs ls hR hL hS
          have hK := K H locs ls hR hL hS
          by_cases hin : x.toInt < lo ∨ hi < x.toInt
          · rw [i2 (by omega)] at hK
            exact lv_tableOut hx hb hd hin ht hK
          · obtain ⟨off, q1, q2⟩ := i1 (x.toInt - lo).toNat (by omega) (by omega)
            exact lv_tableIn hx hb hd (fun q => hin (Or.inl q)) (fun q => hin (Or.inr q)) (by rw [← Array.getElem?_toList]; exact q1) q2 hK
        · cases hm
      · cases hm
    · cases hm
  case lookupswitch d prs =>
    simp only [mstep] at hm
    simp only [okLen, Bool.and_eq_true] at hk
    split at hm
    · unfold swM at hm
      split at hm
      · rename_i r t hr ht
        cases hm
        intro H locs ls hR hL hS
        exact lv_lookup hx hb hd hk.1 rfl (swT_Q x d dt ht prs.toList ps hr hk.2) (K H locs ls hR hL hS)
      · cases hm
    · cases hm
  all_goals first
    | (cases hm; done)
    | (simp only [mstep, alR, asR, nxt, nxtG, ldI, ldJ, ldR, slI, slJ, slR, nwQ, nwP, nwR, lnR, alI, alJ, asI, asB, asJ, inJ, gfR, pfR, gsR, jmp, brn, brnG, uI, bI, dI, bJ, dJ, sJ, icI, isp, ins, mthI, mthJ, inv, cll, rtI] at hm; (repeat' (split at hm)) <;> cases hm; done)
end STP
