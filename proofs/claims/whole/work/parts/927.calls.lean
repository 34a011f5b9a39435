/-! calls, the body of a method, the contract of every method -/
def rmM (d : Nat) (h h' : AH) : Room := { frames := d, cells := szA h' - szA h, slots := usA h' - usA h, locals := 50 * d }
def PcM (B : Nat) (o : Nat → Nat) (D : va_G) (ca : Nat → ClassId) (h0 : AH) (as : List Value) (h : AH) : Array Value → State → Prop := fun v U => v = (as.map (tV B o)).toArray ∧ Ctx B o D ca h0 U ∧ HR B o D ca h0 h U.heap
def QcM (B : Nat) (o : Nat → Nat) (D : va_G) (ca : Nat → ClassId) (h0 : AH) (r : MRes) : Array Value → State → Outcome → State → Prop := fun _ st oc t => oc = .returned (r.1.map (tV B o)) ∧ HR B o D ca h0 r.2 t.heap ∧ va_F (owA B) st t
def wsM (u : Nat) : List Cond := Cond.code (yM u) (cM u) (mxM u) (rfM u) :: lw_gd
def MetM (l : Launch) (B : Nat) (o : Nat → Nat) (D : va_G) (ca : Nat → ClassId) (h0 : AH) (d u : Nat) (as : List Value) (h : AH) (r : MRes) : Prop :=
  Met l (yM u) (wsM u) (rmM d h r.2) (PcM B o D ca h0 as h) (QcM B o D ca h0 r) (szA r.2 - szA h) (usA r.2 - usA h) (owA B)
theorem PcM_blind (B : Nat) (o : Nat → Nat) (D : va_G) (ca : Nat → ClassId) (h0 : AH) (as : List Value) (h : AH) : FrameBlind (PcM B o D ca h0 as h) := fun _ _ _ _ q => ⟨q.1, q.2.1.same rfl rfl, q.2.2⟩
def isCdT (y : MethodName) (b : ByteArray) (n : Nat) (r : Option FieldType) : Cond := .code y b n r
theorem mt_facts {w : Nat} (hw : w < 326) : (Cond.code (yM w) (cM w) (mxM w) (rfM w) ∈ lw_gd) ∧ (Cond.initialized (yM w).cls ∈ lw_gd) ∧ (kdM w = 0 → Cond.static (yM w) ∈ lw_gd) ∧ (kdM w ≠ 0 → Cond.instanceMethod (yM w) ∈ lw_gd) ∧ (kdM w = 1 → Cond.selects (yM w).cls (yM w) (yM w) ∈ lw_gd) ∧ (yM w).cls = RC (owM w) ∧ plainName (yM w).cls = true ∧
    (parseMethodDescriptor (yM w).desc).map (fun d => d.parameters.length) = some (naM w) ∧ ((yM w).cls ≠ "java/lang/invoke/MethodHandle" ∧ (yM w).cls ≠ "java/lang/invoke/VarHandle") ∧ (kdM w = 2 → (yM w).name = "<init>" ∧ rfM w = none) ∧ mxM w ≤ 30 := by
  have h := mt hw
  unfold mtC at h
  simp only [Bool.and_eq_true, decide_eq_true_eq] at h
  obtain ⟨⟨⟨⟨⟨⟨⟨⟨⟨⟨⟨a1, a2⟩, a3⟩, a4⟩, a5⟩, a6⟩, a7⟩, a8⟩, a9⟩, a10⟩, a11⟩, a12⟩ := h
  refine ⟨gd_of (inT_mem a1) rfl, gd_of (inT_mem a2) rfl, fun q => ?_, fun q => ?_, fun q => ?_, a5, a6, a7, ⟨a8, a9⟩, fun q => ?_, a11⟩
  · rw [if_pos q] at a3; exact gd_of (inT_mem a3) rfl
  · rw [if_neg q] at a3; exact gd_of (inT_mem a3) rfl
  · rw [if_pos q] at a4; exact gd_of (inT_mem a4) rfl
  · rw [if_pos q] at a10
    simpa using a10
theorem ow_13 : ∀ w, w < 326 → kdM w = 1 → owM w ≤ 13 := by decide +kernel
theorem take_all (S : List Value) (n : Nat) : S = (S.take n).reverse.reverse ++ S.drop n := by
  rw [List.reverse_reverse, List.take_append_drop]
section STP
variable {p : Program} {l : Launch} {e : Env} {R : Room} {s : State} {m : MethodId} {args : Array Value} {below : List Frame} {meth : Method} {c : Code} {Q : State → Prop} {B : Nat} {o : Nat → Nat} {D : va_G} {ca : Nat → ClassId} {h0 : AH} {u z0 u0 : Nat} {pc pc' : Nat} {L L' S S' : List Value} {h h' : AH} {g : List Bool} {d : Nat}
theorem after_call {H : Heap} {locs : List Loc} {ls : Array Slot} {st : List Value} {a : Array Value} {r : MRes} (run : va_Run p l e R s m args below meth c H locs (szA h - z0) (usA h - u0) (szA r.2 - szA h) (usA r.2 - usA h) (F0 m pc ls st) (S'.map (tV B o)) (QcM B o D ca h0 r a) (owA B))
    (hz0 : z0 ≤ szA h) (hu0 : u0 ≤ usA h) (hz1 : szA h ≤ szA r.2) (hu1 : usA h ≤ usA r.2) (hL : LRr B o ls (mxM u) L) (hS : va_S (owA B) s.heap H locs) (K : WA p l e R s m args below meth c Q B o D ca h0 u z0 u0 (pc + 3, L, r.1.toList ++ S', r.2)) : W p l e R s m args below meth c H locs (szA h - z0) (usA h - u0) Q (F0 m pc ls st) := by
  intro T hT X
  obtain ⟨v, st₀, t, T', L1, e0, X', hL1, e1, e2, ⟨hv, hHR, hz, hkk⟩, go⟩ := run T hT X
  have hv := Outcome.returned.inj hv
  subst hv
  rw [e0] at hz hkk
  have hK := K T'.heap (locs ++ L1) ls (by rw [e1]; exact hHR) hL ⟨Nat.le_trans hS.1 (by rw [e1]; exact hz), fun q h1 h2 => by rw [e1, hkk q (Nat.lt_of_lt_of_le h1 hS.1) h2]; exact hS.2.1 q h1 h2, fun q hq => by
    rcases List.mem_append.mp hq with h | h
    · exact hS.2.2 q h
    · exact hL1 q h⟩
  have hK2 := W.cs (cells := szA h - z0 + (szA r.2 - szA h)) (slots := usA h - u0 + (usA r.2 - usA h)) (by show _ = szA r.2 - z0; omega) (by show _ = usA r.2 - u0; omega) hK
  have hfr : ({ (F0 m pc ls st) with pc := (F0 m pc ls st).pc + 3, stack := (r.1.map (tV B o)).toList ++ S'.map (tV B o) } : JFrame) = F0 m (pc + 3) ls ((r.1.toList ++ S').map (tV B o)) := by
    cases r.1 <;> rfl
  obtain ⟨t2, a1, b1⟩ := hK2 T' rfl X'
  exact ⟨t2, go t2 (by rw [hfr]; exact a1), b1⟩
theorem call_words (F : FX B o D ca h0 u p s m args meth c) {w : Nat} (hw : w < 326) {r : AH} (hrd : d + 1 ≤ R.frames) (hrl : 50 * (d + 1) ≤ R.locals) : (rmM d h r).frames + 1 ≤ R.frames ∧ 8 + (mxM w + 11) + (rmM d h r).locals ≤ R.locals ∧ (∀ x ∈ wsM w, ∀ (a' : Array Value) (U : State), s.WarmedH U.vm → x.before a' U = true) ∧ Cond.code (yM w) (cM w) (mxM w) (rfM w) ∈ wsM w ∧ (Cond.code (yM w) (cM w) (mxM w) (rfM w)).before args s = true ∧ (Cond.initialized (yM w).cls).before args s = true ∧
    ((yM w).cls ≠ "java/lang/invoke/MethodHandle" ∧ (yM w).cls ≠ "java/lang/invoke/VarHandle") ∧ ∀ sig, parseMethodDescriptor (yM w).desc = some sig → naM w = sig.parameters.length := by
  obtain ⟨hx, hb, hml, hown, hts, hin, hC, hB⟩ := F
  obtain ⟨f1, f2, f3, f4, f5, f6, f7, f8, f9, f10, f11⟩ := mt_facts hw
  have hall : ∀ x ∈ wsM w, x ∈ lw_gd := fun x hx => (List.mem_cons.mp hx).elim (fun q => by rw [q]; exact f1) id
  refine ⟨hrd, ?_, fun x hx a' U hW => ?_, List.mem_cons_self, hts _ f1, hts _ f2, f9, fun sig h => ?_⟩
  · show 8 + (mxM w + 11) + 50 * d ≤ R.locals
    omega
  · have h1 := List.mem_filter.mp (hall x hx)
    exact word_at hW (good_of_word h1.2) (hts _ (hall x hx))
  · rw [h] at f8
    exact (Option.some.inj f8).symm
end STP
theorem kd_spec {w : Nat} {own i j : Nat} (hkd : kdM w = j) (hj : j ≤ 2) (hmT : mT own i = some w) : w < 326 ∧ (Cond.methodLink (RC own) i (yM w) ∈ lw_gd ∨ (kdM w = 2 ∧ Cond.methodLinkNest (RC own) i (yM w) "LastMark" ∈ lw_tbl)) := by
  obtain ⟨pp, hw⟩ := wM hmT
  unfold mWc at hw
  have hne : ∀ z : Nat, kdM z = 9 → w ≠ z := fun z hz q => by rw [q, hz] at hkd; omega
  rw [if_neg (hne 9999 (by decide)), if_neg (hne 9998 (by decide)), if_neg (hne 9997 (by decide)), if_neg (hne 9990 (by decide)), if_neg (hne 9991 (by decide)), if_neg (hne 9992 (by decide)), if_neg (hne 9993 (by decide)), if_neg (hne 9994 (by decide)), if_neg (hne 9995 (by decide))] at hw
  simp only [Bool.and_eq_true, Bool.or_eq_true, decide_eq_true_eq] at hw
  refine ⟨hw.1, ?_⟩
  rcases hw.2 with h1 | ⟨h1, h2⟩
  · exact Or.inl (gd_of (inT_mem h1) rfl)
  · exact Or.inr ⟨eq_of_beq h1, inT_mem h2⟩
theorem take_rev {S : List Value} {n : Nat} {v : Value} (h : S[n]? = some v) : (S.take (n + 1)).reverse = v :: (S.take n).reverse := by
  rw [List.take_succ, h]
  simp
theorem stk_split (B : Nat) (o : Nat → Nat) {S : List Value} {n : Nat} {v : Value} (h : S[n]? = some v) : S.map (tV B o) = (((S.take n).reverse).map (tV B o)).reverse ++ tV B o v :: (S.drop (n + 1)).map (tV B o) := by
  have h1 : S = S.take (n + 1) ++ S.drop (n + 1) := (List.take_append_drop _ _).symm
  have h2 : S.take (n + 1) = S.take n ++ [v] := by
    rw [List.take_succ, h]
    rfl
  rw [h2] at h1
  rw [← List.map_reverse, List.reverse_reverse]
  conv => lhs; rw [h1]
  simp
section STP
variable {p : Program} {l : Launch} {e : Env} {R : Room} {s : State} {m : MethodId} {args : Array Value} {below : List Frame} {meth : Method} {c : Code} {Q : State → Prop} {B : Nat} {o : Nat → Nat} {D : va_G} {ca : Nat → ClassId} {h0 : AH} {u z0 u0 : Nat} {pc pc' : Nat} {L L' S S' : List Value} {h h' : AH} {g : List Bool} {d : Nat}
theorem recv_at (hC : Ctx B o D ca h0 s) {H : Heap} {locs : List Loc} (hR : HR B o D ca h0 h H) (hS : va_S (owA B) s.heap H locs) {x w : Nat} (hw : w ≤ 13) (hk : kdA h x = w) : x ≠ 0 ∧ ∃ cellB : Cell, H[adA B o x]? = some cellB ∧ cellB.vm.isStatics = false ∧ s.vm.findClass (RC w) = some cellB.cls := by
  by_cases h13 : w < 13
  · obtain ⟨hx1, e1, hat⟩ := own_at hR hk h13
    have hx0 : x ≠ 0 := by omega
    have hlt : x < 1000000 := by have := hR.2.2.1.2.2; omega
    obtain ⟨r, hr, cell, q1, q2, q3, -⟩ := hat
    refine ⟨hx0, cell, by rw [adA_own B o hlt]; exact q1, by rw [q3]; rfl, ?_⟩
    rw [q2]
    exact (hC.1.1 w _ (vw_at h13)).2.1
  · obtain rfl : w = 13 := by omega
    have hx := hR.2.2.1.2.1 x (Or.inl hk)
    obtain ⟨o1, -⟩ := hR.2.2.2 x hx
    obtain ⟨cell, q1, q2, q3, -⟩ := ((hC.2.2.2.2.1 x hx (by rw [← o1]; exact hk)).1).kept hS.2.1
    exact ⟨by omega, cell, by rw [adA_out B o hx]; exact q1, q2, q3⟩
theorem call_pre (F : FX B o D ca h0 u p s m args meth c) {H : Heap} {locs : List Loc} (hR : HR B o D ca h0 h H) (hS : va_S (owA B) s.heap H locs) {as : List Value} {vs : List Value} (hv : vs = as.map (tV B o)) : PreS s H (PcM B o D ca h0 as h) vs :=
  ⟨PcM_blind B o D ca h0 as h, fun U hU hW => ⟨by rw [hv], F.2.2.2.2.2.2.1.warm hW (fun a ha hn => by rw [hU]; exact hS.2.1 a ha hn), by rw [hU]; exact hR⟩⟩
set_option maxHeartbeats 4000000 in
theorem step_call (F : FX B o D ca h0 u p s m args meth c) {i : Instr} {k : Nat} (hd : decode (cM u) pc = .ok (i, k)) (hk : okLen i k = true) {w : Nat} {as : List Value} (hm : mstep (owM u) (rtM u) i pc k L S h = some (g, .inr (.inr (.inr (.inl (w, as, pc', L', S', h')))))) (hg : allG g = true) {r : MRes}
    (hM : w < 326 → okAs as = true → (spr as).length ≤ mxM w → MetM l B o D ca h0 d w as h' r) (hrd : d + 1 ≤ R.frames) (hrl : 50 * (d + 1) ≤ R.locals) (hz0 : z0 ≤ szA h') (hu0 : u0 ≤ usA h') (hz1 : szA h' ≤ szA r.2) (hu1 : usA h' ≤ usA r.2) (hc : szA r.2 ≤ z0 + R.cells) (hs : usA r.2 ≤ u0 + R.slots)
    (K : WA p l e R s m args below meth c Q B o D ca h0 u z0 u0 (pc', L', r.1.toList ++ S', r.2)) : WA p l e R s m args below meth c Q B o D ca h0 u z0 u0 (pc, L, S, h) := by
  obtain ⟨hx, hb, hml, hown, hts, hin, hC, hB⟩ := id F
  cases i
  case invokevirtual j =>
    obtain rfl : k = 3 := eq_of_beq hk
    simp only [mstep, inv] at hm
    split at hm
    · split at hm
      · split at hm
        · cases hm
        · cases hm
      · cases hm
    · rename_i w' hw9 hmT
      split at hm
      · rename_i hkd
        split at hm
        · rename_i x hx0
          unfold cll at hm
          split at hm
          · rename_i hle hcat hok hlen
            cases hm
            simp only [allG, Bool.and_true, decide_eq_true_eq] at hg
            obtain ⟨hwl, hlk⟩ := kd_spec hkd (by omega) hmT
            have hlk : Cond.methodLink (RC (owM u)) j (yM w) ∈ lw_gd := hlk.elim id (fun q => by rw [hkd] at q; omega)
            obtain ⟨f1, f2, f3, f4, f5, f6, f7, f8, f9, f10, f11⟩ := mt_facts hwl
            have hMM := hM hwl hok (Nat.le_of_ble_eq_true hlen)
            intro H locs ls hR hL hS
            obtain ⟨hxn, hcell⟩ := recv_at hC hR hS (ow_13 w hwl hkd) hg
            obtain ⟨w1, w2, w3, w4, w5, w6, w7, w8⟩ := call_words (d := d) (h := h) (r := r.2) F hwl hrd hrl
            have hpre := call_pre F hR hS (as := (S.take (naM w + 1)).reverse) (vs := .ref (adA B o x) :: ((S.take (naM w)).reverse).map (tV B o)) (by rw [take_rev hx0, List.map_cons, tV_r B o hxn])
            have hstk := stk_split B o hx0
            rw [tV_r B o hxn] at hstk
            show W p l e R s m args below meth c H locs _ _ Q (F0 m pc ls (S.map (tV B o)))
            rw [hstk]
            have hl2 : naM w + 1 ≤ S.length := Nat.le_of_ble_eq_true hle
            exact after_call (va_runV (C := RC (owM w)) (b := adA B o x) (As := ((S.take (naM w)).reverse).map (tV B o)) (rest := (S.drop (naM w + 1)).map (tV B o)) ⟨hx, hb, hml, hown, hts⟩ hMM ⟨⟨rfl, rfl, w1, w2, w3, w4, w5, w6, w7, w8, hts _ hlk⟩, hts _ (f4 (by omega)), hts _ (by rw [← f6]; exact f5 hkd)⟩ ⟨hpre.1, hcell, hpre.2⟩ rfl (by simp; omega) hL.1 rfl (by show 2 * 0 + _ ≤ 8; rw [cat_map]; have := catS_le hcat; omega) hd ⟨by show szA h - z0 + (szA r.2 - szA h) ≤ R.cells; omega, by show usA h - u0 + (usA r.2 - usA h) ≤ R.slots; omega⟩) hz0 hu0 hz1 hu1 hL hS K
          · cases hm
        · cases hm
      · cases hm
    · cases hm
  case invokestatic j =>
    obtain rfl : k = 3 := eq_of_beq hk
    simp only [mstep, ins, mthI, mthJ, nxt, nxtG] at hm
    split at hm
    · split at hm <;> cases hm
    · split at hm
      · split at hm <;> cases hm
      · cases hm
    · split at hm
      · split at hm <;> cases hm
      · cases hm
    · split at hm
      · split at hm <;> cases hm
      · cases hm
    · split at hm
      · split at hm <;> cases hm
      · cases hm
    · split at hm
      · split at hm <;> cases hm
      · cases hm
    · split at hm
      · split at hm <;> cases hm
      · cases hm
    · rename_i hmT
      split at hm
      · rename_i hkd
        unfold cll at hm
        split at hm
        · rename_i hle hcat hok hlen
          cases hm
          obtain ⟨hwl, hlk⟩ := kd_spec hkd (by omega) hmT
          have hlk : Cond.methodLink (RC (owM u)) j (yM w) ∈ lw_gd := hlk.elim id (fun q => by rw [hkd] at q; omega)
          obtain ⟨f1, f2, f3, f4, f5, f6, f7, f8, f9, f10, f11⟩ := mt_facts hwl
          have hMM := hM hwl hok (Nat.le_of_ble_eq_true hlen)
          intro H locs ls hR hL hS
          obtain ⟨w1, w2, w3, w4, w5, w6, w7, w8⟩ := call_words (d := d) (h := h) (r := r.2) F hwl hrd hrl
          have hpre := call_pre F hR hS (as := (S.take (naM w)).reverse) rfl
          have hstk : S.map (tV B o) = (((S.take (naM w)).reverse).map (tV B o)).reverse ++ (S.drop (naM w)).map (tV B o) := by
            rw [← List.map_reverse, List.reverse_reverse, ← List.map_append, List.take_append_drop]
          show W p l e R s m args below meth c H locs _ _ Q (F0 m pc ls (S.map (tV B o)))
          rw [hstk]
          have hl2 : naM w ≤ S.length := Nat.le_of_ble_eq_true hle
          exact after_call (va_runS (As := ((S.take (naM w)).reverse).map (tV B o)) (rest := (S.drop (naM w)).map (tV B o)) ⟨hx, hb, hml, hown, hts⟩ hMM ⟨⟨rfl, rfl, w1, w2, w3, w4, w5, w6, w7, w8, hts _ hlk⟩, hts _ (f3 hkd)⟩ hpre rfl (by simp; omega) hL.1 rfl (by show 2 * 0 + _ ≤ 8; rw [cat_map]; have := catS_le hcat; omega) hd ⟨by show szA h - z0 + (szA r.2 - szA h) ≤ R.cells; omega, by show usA h - u0 + (usA r.2 - usA h) ≤ R.slots; omega⟩) hz0 hu0 hz1 hu1 hL hS K
        · cases hm
      · cases hm
    · cases hm
  case invokespecial j =>
    obtain rfl : k = 3 := eq_of_beq hk
    simp only [mstep, isp] at hm
    split at hm
    · split at hm
      · split at hm
        · cases hm
        · cases hm
      · cases hm
    · rename_i w' hw9 hmT
      split at hm
      · rename_i hkd
        split at hm
        · rename_i x hx0
          unfold cll at hm
          split at hm
          · rename_i hle hcat hok hlen
            cases hm
            simp only [allG, Bool.and_true, Bool.not_eq_true', decide_eq_false_iff_not] at hg
            obtain ⟨hwl, hlk⟩ := kd_spec hkd (by omega) hmT
            obtain ⟨f1, f2, f3, f4, f5, f6, f7, f8, f9, f10, f11⟩ := mt_facts hwl
            obtain ⟨f12, f13⟩ := f10 hkd
            have hMM := hM hwl hok (Nat.le_of_ble_eq_true hlen)
            intro H locs ls hR hL hS
            obtain ⟨w1, w2, w3, w4, w5, w6, w7, w8⟩ := call_words (d := d) (h := h) (r := r.2) F hwl hrd hrl
            rw [f13] at w4 w5
            have hpre := call_pre F hR hS (as := (S.take (naM w + 1)).reverse) (vs := .ref (adA B o x) :: ((S.take (naM w)).reverse).map (tV B o)) (by rw [take_rev hx0, List.map_cons, tV_r B o hg])
            have hstk := stk_split B o hx0
            rw [tV_r B o hg] at hstk
            show W p l e R s m args below meth c H locs _ _ Q (F0 m pc ls (S.map (tV B o)))
            rw [hstk]
            have hl2 : naM w + 1 ≤ S.length := Nat.le_of_ble_eq_true hle
            rcases hlk with hlk | ⟨-, hlk⟩
            · exact after_call (va_runI (b := adA B o x) (As := ((S.take (naM w)).reverse).map (tV B o)) (rest := (S.drop (naM w + 1)).map (tV B o)) ⟨hx, hb, hml, hown, hts⟩ hMM ⟨⟨rfl, rfl, w1, w2, w3, w4, w5, w6, w7, w8, hts _ hlk⟩, f12, hts _ (f4 (by omega))⟩ hpre rfl (by simp; omega) hL.1 rfl (by show 2 * 0 + _ ≤ 8; rw [cat_map]; have := catS_le hcat; omega) hd ⟨by show szA h - z0 + (szA r.2 - szA h) ≤ R.cells; omega, by show usA h - u0 + (usA r.2 - usA h) ≤ R.slots; omega⟩) hz0 hu0 hz1 hu1 hL hS K
            · exact after_call (va_runIN (b := adA B o x) (As := ((S.take (naM w)).reverse).map (tV B o)) (rest := (S.drop (naM w + 1)).map (tV B o)) ⟨hx, hb, hml, hown, hts⟩ hMM ⟨⟨⟨rfl, rfl, w1, w2, w3, w4⟩, w5, w6, w7, w8, va_Nw.use rfl (hC.2.2.2.2.2.2.2.2.1 _ hlk rfl)⟩, f12, hts _ (f4 (by omega))⟩ hpre rfl (by simp; omega) hL.1 rfl (by show 2 * 0 + _ ≤ 8; rw [cat_map]; have := catS_le hcat; omega) hd ⟨by show szA h - z0 + (szA r.2 - szA h) ≤ R.cells; omega, by show usA h - u0 + (usA r.2 - usA h) ≤ R.slots; omega⟩) hz0 hu0 hz1 hu1 hL hS K
          · cases hm
        · cases hm
      · cases hm
    · cases hm
  all_goals first
    | (cases hm; done)
    | (simp only [mstep, alR, asR, nxt, nxtG, ldI, ldJ, ldR, slI, slJ, slR, nwQ, nwP, nwR, lnR, alI, alJ, asI, asB, asJ, inJ, gfR, pfR, gsR, jmp, brn, brnG, uI, bI, dI, bJ, dJ, sJ, icI, swM, rtI] at hm; (repeat' (split at hm)) <;> cases hm; done)
end STP
