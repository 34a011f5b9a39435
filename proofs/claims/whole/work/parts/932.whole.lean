/-! the start's context; the law out of a run of the small machine -/
theorem KOK_h00 (L : Nat) (xs : Nat → Int32) (fm : Nat) : KOK (h00 L xs fm) := by
  have ek : ∀ x, kdA (h00 L xs fm) x = if x = 1000000 then 40 else if 1000001 ≤ x ∧ x ≤ 1000003 then 13 else if 1000005 ≤ x ∧ x ≤ 1000007 then 42 else 99 := fun x => rfl
  have ez : szA (h00 L xs fm) = 0 := rfl
  refine ⟨fun x => ?_, fun x hx => ?_, by rw [ez]; omega⟩
  · rw [ek, ez]
    unfold okK
    constructor
    · intro h
      split at h
      · omega
      · split at h
        · omega
        · split at h <;> omega
    · intro h; omega
  · rw [ek] at hx
    split at hx
    · omega
    · split at hx
      · omega
      · split at hx <;> omega
theorem HR_h00 (B : Nat) (o : Nat → Nat) (D : va_G) (ca : Nat → ClassId) (L : Nat) (xs : Nat → Int32) (fm : Nat) {H : Heap} (h : H.size = B) : HR B o D ca (h00 L xs fm) (h00 L xs fm) H := by
  refine ⟨h, fun x h1 h2 => ?_, KOK_h00 L xs fm, fun x _ => ⟨rfl, rfl, fun _ => rfl, fun _ => rfl⟩⟩
  have : x ≤ 0 := h2
  omega
theorem start_K {args : Array Value} {s : State} (hts : ∀ w ∈ lw_tbl, w.before args s = true) : ∃ (D : va_G) (ca : Nat → ClassId), va_K D vwCl (tysA ca) s := by
  have hgd : ∀ w ∈ lw_gd, w.before args s = true := fun w hw => hts w (List.mem_filter.mp hw).1
  have h1 : ∀ c : Nat, ∃ q : ClassId × (Nat → Nat), c < 13 → u_Kn s (RC c) (TC c) (fN c) q.1 q.2 := by
    intro c
    by_cases hc : c < 13
    · obtain ⟨cC, iS, hk⟩ := u_known hgd (hin_c hc) (hts _ (inst_ok c hc).1)
      exact ⟨(cC, iS), fun _ => hk⟩
    · exact ⟨(0, fun _ => 0), fun q => absurd q hc⟩
  obtain ⟨f, hf⟩ := Classical.axiomOfChoice h1
  obtain ⟨c20, a20⟩ := arr_prim (hts _ st_w3.1) (fun _ h => h)
  obtain ⟨c21, a21⟩ := arr_prim (hts _ st_w3.2.1) (fun _ h => h)
  obtain ⟨c22, a22⟩ := arr_prim (hts _ st_w3.2.2.1) (fun _ h => h)
  obtain ⟨c23, a23⟩ := arr_prim (hts _ st_w3.2.2.2.1) (fun _ h => h)
  obtain ⟨c24, a24⟩ := arr_prim (hts _ st_w3.2.2.2.2) (fun _ h => h)
  obtain ⟨c30, a30⟩ := arr_ref (hts _ st_w2.1)
  obtain ⟨c31, a31⟩ := arr_ref (hts _ st_w2.2.1)
  obtain ⟨c32, a32⟩ := arr_ref (hts _ st_w2.2.2.1)
  obtain ⟨c33, a33⟩ := arr_ref (hts _ st_w2.2.2.2)
  refine ⟨(fun c => (f c).1, fun c => (f c).2), fun t => if t = 20 then c20 else if t = 21 then c21 else if t = 22 then c22 else if t = 23 then c23 else if t = 24 then c24 else if t = 30 then c30 else if t = 31 then c31 else if t = 32 then c32 else c33, fun c q hq => ?_, fun k q hq => ?_⟩
  · have hc : c < 13 := (List.getElem?_eq_some_iff.mp hq).1
    have he := vw_at hc
    rw [hq] at he
    cases he
    exact hf c hc
  · have hk : k < 9 := (List.getElem?_eq_some_iff.mp hq).1
    have h2 : k = 0 ∨ k = 1 ∨ k = 2 ∨ k = 3 ∨ k = 4 ∨ k = 5 ∨ k = 6 ∨ k = 7 ∨ k = 8 := by omega
    rcases h2 with rfl | rfl | rfl | rfl | rfl | rfl | rfl | rfl | rfl
    · cases hq; exact a20
    · cases hq; exact a21
    · cases hq; exact a22
    · cases hq; exact a23
    · cases hq; exact a24
    · cases hq; exact a30
    · cases hq; exact a31
    · cases hq; exact a32
    · cases hq; exact a33
def oS (b : Nat) (adK adV : Nat → Nat) (fa : Nat) (x : Nat) : Nat := if x = 1000000 then b else if x = 1000020 then fa else if x < 1000005 then adK (x - 1000001) else adV (x - 1000005)
theorem start_ctx {b L : Nat} {xs : Nat → Int32} {s : State} (hL : L ≤ 3072) (hts : ∀ w ∈ lw_tbl, w.before #[Value.ref b] s = true) (hX : va_X b L xs s s.heap) (hbl : b < s.heap.size) (hn : nrw.before #[Value.ref b] s = true) :
    ∃ (o : Nat → Nat) (D : va_G) (ca : Nat → ClassId) (fm : Nat), (fm = 0 ∨ fm = 1000020) ∧ o 1000000 = b ∧ Ctx s.heap.size o D ca (h00 L xs fm) s := by
  have hfl := flat_of_before _ hn
  have hA : ∀ a : Nat, a < s.heap.size → ¬ owA s.heap.size a := fun a h q => Nat.lt_irrefl _ (Nat.lt_of_lt_of_le h q)
  obtain ⟨D, ca, hK⟩ := start_K hts
  obtain ⟨adK, adV, hS, hev⟩ := vk_Sof (N := 3) (tm := tmS) (len := lnS) (byt := byS) (A := owA s.heap.size) (args := #[Value.ref b]) (s := s)
    (fun i hi => by have h : i = 0 ∨ i = 1 ∨ i = 2 := by omega
                    rcases h with rfl | rfl | rfl <;> decide)
    (fun i hi => hfl _ (st_ex i hi)) (fun i hi => hfl _ (st_co i hi)) (fun i hi => hfl _ (st_ar i hi)) (fun i hi => hfl _ (st_le i hi)) (fun i hi j hj => hfl _ (st_el i hi j hj))
    (fun i j hi hj hij => (st_ne i hi j hj hij).elim (fun q => Or.inl (hfl _ q)) (fun q => Or.inr (hfl _ q))) hA
  have hZ1 : va_Z "java/lang/String" "COMPACT_STRINGS" "Z" (.int 1) (owA s.heap.size) s s.heap := by
    exact va_Zof (hts _ st_w1.1) (hts _ st_w1.2.2.1) (va_eqi (hfl _ st_cs)) hA
  have hZ2 := va_Zqof (A := owA s.heap.size) (hts _ st_w1.2.1) (hts _ st_w1.2.2.2.1) (hfl _ st_fm) hA
  have hex : ∃ (fm fa : Nat), (fm = 0 ∨ fm = 1000020) ∧ va_Z "jdk/internal/util/Preconditions" "SIOOBE_FORMATTER" "Ljava/util/function/BiFunction;" (va_rf (tN s.heap.size (oS b adK adV fa) fm)) (owA s.heap.size) s s.heap := by
    rcases hZ2 with h | ⟨t, h⟩
    · exact ⟨0, 0, Or.inl rfl, h⟩
    · refine ⟨1000020, t, Or.inr rfl, ?_⟩
      have e : va_rf (tN s.heap.size (oS b adK adV t) 1000020) = .ref t := by
        show va_rf (if (1000020 : Nat) = 0 then none else some (if (1000020 : Nat) < 1000000 then _ else oS b adK adV t 1000020)) = _
        rw [if_neg (by decide), if_neg (by decide)]
        rfl
      rw [e]
      exact h
  obtain ⟨fm, fa, hfm, hZ3⟩ := hex
  have ek : ∀ x, kdA (h00 L xs fm) x = if x = 1000000 then 40 else if 1000001 ≤ x ∧ x ≤ 1000003 then 13 else if 1000005 ≤ x ∧ x ≤ 1000007 then 42 else 99 := fun x => rfl
  have k42 : ∀ x, kdA (h00 L xs fm) x = 42 → x = 1000005 ∨ x = 1000006 ∨ x = 1000007 := by
    intro x hx
    rw [ek] at hx
    split at hx
    · cases hx
    · split at hx
      · cases hx
      · split at hx
        · omega
        · cases hx
  have k13 : ∀ x, kdA (h00 L xs fm) x = 13 → x = 1000001 ∨ x = 1000002 ∨ x = 1000003 := by
    intro x hx
    rw [ek] at hx
    split at hx
    · cases hx
    · split at hx
      · omega
      · split at hx <;> cases hx
  have k40 : ∀ x, kdA (h00 L xs fm) x = 40 → x = 1000000 := by
    intro x hx
    rw [ek] at hx
    split at hx
    · assumption
    · split at hx
      · cases hx
      · split at hx <;> cases hx
  have str : ∀ i, i < 3 → va_O "java/lang/String" (adK i) (owA s.heap.size) s s.heap ∧ va_OF "java/lang/String" "coder" "B" (.int 0) (adK i) (owA s.heap.size) s s.heap ∧ va_OF "java/lang/String" "value" "[B" (.ref (adV i)) (adK i) (owA s.heap.size) s s.heap := fun i hi => ⟨(hS.1 i hi).1, (hS.1 i hi).2.1, (hS.1 i hi).2.2.1⟩
  refine ⟨oS b adK adV fa, D, ca, fm, hfm, rfl, hK, (hK.2 0 _ rfl).2, fun x _ hx => ?_, fun x _ hx => ?_, fun x _ hx => ?_, hZ1, hZ3, fun own i t ht => ?_, fun w hw hn => ?_, va_Nw.of rfl (hts _ st_w1.2.2.2.2), va_AO.of (hts _ st_w2.1), va_AO.of (hts _ st_w2.2.1), va_AO.of (hts _ st_w2.2.2.1), va_AO.of (hts _ st_w2.2.2.2)⟩
  · obtain rfl := k40 x hx
    obtain ⟨scr, q1, q2, q3, q4, q5⟩ := hX
    exact ⟨scr, q1, q2, q3, Nat.le_of_eq q4.symm, by rw [q4]; rfl, q5, hA b hbl⟩
  · rcases k42 x hx with rfl | rfl | rfl
    · exact (hS.1 0 (by omega)).2.2.2
    · exact (hS.1 1 (by omega)).2.2.2
    · exact (hS.1 2 (by omega)).2.2.2
  · obtain ⟨i, hi, rfl⟩ : ∃ i, i < 3 ∧ x = 1000001 + i := by
      have := k13 x hx
      exact ⟨x - 1000001, by omega, by omega⟩
    have e1 : oS b adK adV fa (1000001 + i) = adK i := by
      unfold oS
      rw [if_neg (by omega), if_neg (by omega), if_pos (by omega), show 1000001 + i - 1000001 = i by omega]
    have e2 : oS b adK adV fa (1000005 + i) = adV i := by
      unfold oS
      rw [if_neg (by omega), if_neg (by omega), if_neg (by omega), show 1000005 + i - 1000005 = i by omega]
    have e3 : rvA (h00 L xs fm) (1000001 + i) 0 = 1000005 + i := by
      show (if 1000001 ≤ 1000001 + i ∧ 1000001 + i ≤ 1000003 then 1000001 + i + 4 else _) = _
      rw [if_pos (by omega)]
      omega
    have e4 : ivA (h00 L xs fm) (1000001 + i) 1 = 0 := by
      show (if 1000001 + i = 1000000 then _ else if 1000001 + i = 1000009 then _ else if 1000001 + i = 1000005 then _ else if 1000001 + i = 1000006 then _ else if 1000001 + i = 1000007 then _ else (0 : Int32)) = 0
      rw [if_neg (by omega), if_neg (by omega), if_neg (by omega), if_neg (by omega), if_neg (by omega)]
    have e5 : va_rf (tN s.heap.size (oS b adK adV fa) (1000005 + i)) = .ref (adV i) := by
      unfold tN
      rw [if_neg (by omega), adA_out _ _ (by omega), e2]
      rfl
    rw [e1, e3, e4, e5]
    exact str i hi
  · rcases sT_cases ht with ⟨rfl, rfl, rfl⟩ | ⟨rfl, rfl, rfl⟩ | ⟨rfl, rfl, rfl⟩ | ⟨rfl, rfl, rfl⟩
    · exact ⟨_, vk_R.of (hts _ st_w4.1) (hev 1 (by omega))⟩
    · exact ⟨_, vk_R.of (hts _ st_w4.2.1) (hev 2 (by omega))⟩
    · exact ⟨_, vk_R.of (hts _ st_w4.2.2.1) (va_eqR (hfl _ st_119) (hev 1 (by omega)))⟩
    · exact ⟨_, vk_R.of (hts _ st_w4.2.2.2) (hev 0 (by omega))⟩
  · cases w <;> first | (cases hn; done) | exact va_Nw.of rfl (hts _ hw)
/-- what is left to prove: the law's run on the small machine -/
def LawRun : Prop := ∀ (L : Nat) (xs : Nat → Int32) (fm : Nat), L ≤ 3072 → (fm = 0 ∨ fm = 1000020) → Safe 200 326 (0, [.ref 1000000, unV, unV, unV], [], h00 L xs fm) (fun v h' => v = some (.int 1) ∧ szA h' ≤ 600000 ∧ usA h' ≤ 7302250)
theorem law_ret {u : Nat} {i : Instr} {pc k : Nat} {L S : List Value} {h h' : AH} {g : List Bool} (hk : okLen i k = true) (hm : mstep (owM u) (rtM u) i pc k L S h = some (g, .inr (.inr (.inr (.inr (some (.int 1), h')))))) : i = .ireturn ∧ k = 1 ∧ S = [.int 1] ∧ h = h' := by
  cases i
  case ireturn =>
    refine ⟨rfl, eq_of_beq hk, ?_⟩
    simp only [mstep, rtI] at hm
    split at hm
    · split at hm <;> cases hm <;> exact ⟨rfl, rfl⟩
    · cases hm
  all_goals first
    | (cases hm; done)
    | (simp only [mstep, alR, asR, nxt, nxtG, ldI, ldJ, ldR, slI, slJ, slR, nwQ, nwP, nwR, lnR, alI, alJ, asI, asB, asJ, inJ, gfR, pfR, gsR, jmp, brn, brnG, uI, bI, dI, bJ, dJ, sJ, icI, isp, ins, mthI, mthJ, inv, cll, swM] at hm; (repeat' (split at hm)) <;> cases hm; done)
theorem whole_open (hFM : ∀ l, FMall l) (hLR : LawRun) {p : Program} {e : Env} {s : State} {m : MethodId} {below : List Frame} {meth : Method} {c : Code} (l : Launch) {b L : Nat} {xs : Nat → Int32} (hL : L ≤ 3072) (C0 : lw_At p s m meth c b L xs) : W p l e room_1 s m #[Value.ref b] below meth c s.heap [] 0 0 (lw_Z below #[Value.ref b] s) (entryFrame m ([Value.ref b] : List Value).toArray 4) := by
  obtain ⟨hx, hb, hr, hml, hown, hts, hX, hbl, hlocks, hn⟩ := C0
  obtain ⟨o, D, ca, fm, hfm, ho, hC⟩ := start_ctx hL hts hX hbl hn
  obtain ⟨N, n, v, h', hrun, hv, hz, hu⟩ := hLR L xs fm hL hfm
  subst hv
  have hgd : ∀ w ∈ lw_gd, w.before #[Value.ref b] s = true := fun w hw => hts w (List.mem_filter.mp hw).1
  have F : FX s.heap.size o D ca (h00 L xs fm) 326 p s m #[Value.ref b] meth c := ⟨hx, hb, hml, hown, hgd, fun q => absurd q (by decide), hC, Nat.le_refl _⟩
  have hroom1 : (1 : Nat) ≤ room_1.frames := by decide
  have hroom2 : (50 : Nat) ≤ room_1.locals := by decide
  have hbody := body_sound (l := l) (e := e) (R := room_1) (below := below) (Q := lw_Z below #[Value.ref b] s) (z0 := 0) (u0 := 0) (d := 200) (N := N) (r := (some (.int 1), h')) F (hFM l p e room_1 s m _ below meth c _ 326 hx hb hml hown hgd hroom1 hroom2) cd_326 (fun w as h r q1 q2 q3 q4 q5 => met_all l _ _ _ _ _ (hFM l) cd_all 200 N w as h r q1 q2 q3 q4 q5) (by decide) (by decide) (by show szA h' ≤ 0 + 600000; omega) (by show usA h' ≤ 0 + 7302250; omega) (by show szA h' < 1000000; omega)
    (fun pc i k L1 S h g hd hk hm hg => by
      obtain ⟨rfl, rfl, rfl, rfl⟩ := law_ret hk hm
      intro H locs ls hR hLR hS
      refine va_forget (fun q hq => hS.2.2 q hq) ?_
      exact W.widen (by show szA h - 0 ≤ 600000; omega) (by show usA h - 0 ≤ 7302250; omega) (lw_ret hx hb hr hlocks hd))
    n _ hrun (Nat.zero_le _) (Nat.zero_le _)
  have hW := hbody s.heap [] _ (HR_h00 _ _ _ _ _ _ _ rfl) (ent_LR s.heap.size o 326 [.ref 1000000] rfl (by decide)) va_S.rf
  have e1 : ([.ref 1000000] : List Value).map (tV s.heap.size o) = [.ref b] := by
    rw [List.map_cons, tV_r _ _ (by decide), adA_out _ _ (by decide), ho]
    rfl
  rw [e1] at hW
  rw [lg_entry_eq]
  exact hW
