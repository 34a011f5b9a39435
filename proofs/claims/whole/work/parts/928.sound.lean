/-! the body of a method, and the contract of every method -/
def rtOk (rt : Nat) (rf : Option FieldType) : Bool := match rt with
  | 0 => decide (rf = none)
  | 1 => decide (rf = some .int)
  | 2 => decide (rf = some .long)
  | 3 => match rf with
    | some (.object _) => true
    | some (.array _) => true
    | _ => false
  | 4 => decide (rf = some .boolean)
  | 5 => decide (rf = some .char)
  | 6 => decide (rf = some .byte)
  | _ => false
theorem rtOk_3 {rf : Option FieldType} (h : rtOk 3 rf = true) : ∃ t, rf = some t ∧ ((∃ n, t = .object n) ∨ ∃ t', t = .array t') := by
  cases rf with
  | none => cases h
  | some t => cases t <;> first | (cases h; done) | exact ⟨_, rfl, Or.inl ⟨_, rfl⟩⟩ | exact ⟨_, rfl, Or.inr ⟨_, rfl⟩⟩
theorem rt_ok : ∀ u, u < 326 → rtOk (rtM u) (rfM u) = true := by decide +kernel
theorem nar_char {v : Int32} (h : inB v 65536 = true) : narrow .char (.int v) = .int v := by
  have h1 := inB_lt h
  have h0 : ¬ v < 0 := fun q => inB_in h (Or.inl q)
  obtain ⟨n, hn, rfl⟩ := nI_of h0
  rw [show ix (nI n) = n from pk_cl n rfl] at h1
  exact (pk_charN h1).1
theorem nar_byte {v : Int32} (h : v.toInt8.toInt32 = v) : narrow .byte (.int v) = .int v := by
  rw [narrow_byte, h]
section STP
variable {p : Program} {l : Launch} {e : Env} {R : Room} {s : State} {m : MethodId} {args : Array Value} {below : List Frame} {meth : Method} {c : Code} {Q : State → Prop} {B : Nat} {o : Nat → Nat} {D : va_G} {ca : Nat → ClassId} {h0 : AH} {u z0 u0 : Nat} {pc pc' : Nat} {L L' S S' : List Value} {h h' : AH} {g : List Bool} {d N : Nat}
/-- what a method's code must be -/
def CdOk (u : Nat) : Prop := ∀ pc i k, lkp (codeM u) pc = some (i, k) → decode (cM u) pc = .ok (i, k) ∧ okLen i k = true ∧ ∀ j, i = .putfield j → ∀ f, fT (owM u) j = some f → f / 64 < 13 ∧ ((TC (f / 64) (f % 64)).2.2.2 = true → kdM u = 2 ∧ owM u = f / 64 ∧ (TC (f / 64) (f % 64)).1 = RC (f / 64))
theorem step_ret (F : FX B o D ca h0 u p s m args meth c) (hr : meth.sig.returnType = rfM u) (hlocks : meth.locks = false) (hrt : rtOk (rtM u) (rfM u) = true) {i : Instr} {k : Nat} (hd : decode (cM u) pc = .ok (i, k)) (hk : okLen i k = true) {r : MRes} (hm : mstep (owM u) (rtM u) i pc k L S h = some (g, .inr (.inr (.inr (.inr r))))) (hg : allG g = true) :
    WA p l e R s m args below meth c (MQ below (QcM B o D ca h0 r) args s (szA r.2 - z0) (usA r.2 - u0) (owA B)) B o D ca h0 u z0 u0 (pc, L, S, h) := by
  obtain ⟨hx, hb, hml, hown, hts, hin, hC, hB⟩ := id F
  cases i
  case ireturn =>
    obtain rfl : k = 1 := eq_of_beq hk
    simp only [mstep, rtI] at hm
    split at hm
    · split at hm
      · rename_i v rt e1
        cases hm
        rw [e1] at hrt
        have e2 : rfM u = some .int := of_decide_eq_true hrt
        rw [e2] at hr
        intro H locs ls hR hL hS
        exact W.iret hx hb hr (fun t ht hW => ⟨rfl, by rw [ht]; exact hR, hS.F ht⟩) hS.2.2 hd
      · rename_i v rt e1
        cases hm
        rw [e1] at hrt
        have e2 : rfM u = some .boolean := of_decide_eq_true hrt
        rw [e2] at hr
        simp only [allG, Bool.and_true] at hg
        intro H locs ls hR hL hS
        exact W.zret hx hb hr (nar_bool hg).1 (fun t ht hW => ⟨rfl, by rw [ht]; exact hR, hS.F ht⟩) hS.2.2 hd
      · rename_i v rt e1
        cases hm
        rw [e1] at hrt
        have e2 : rfM u = some .char := of_decide_eq_true hrt
        rw [e2] at hr
        simp only [allG, Bool.and_true] at hg
        intro H locs ls hR hL hS
        exact W.zret hx hb hr (nar_char hg) (fun t ht hW => ⟨rfl, by rw [ht]; exact hR, hS.F ht⟩) hS.2.2 hd
      · rename_i v rt e1
        cases hm
        rw [e1] at hrt
        have e2 : rfM u = some .byte := of_decide_eq_true hrt
        rw [e2] at hr
        simp only [allG, Bool.and_true, decide_eq_true_eq] at hg
        intro H locs ls hR hL hS
        exact W.zret hx hb hr (nar_byte hg) (fun t ht hW => ⟨rfl, by rw [ht]; exact hR, hS.F ht⟩) hS.2.2 hd
      · cases hm
    · cases hm
  case lreturn =>
    obtain rfl : k = 1 := eq_of_beq hk
    simp only [mstep] at hm
    split at hm
    · rename_i v e1
      cases hm
      rw [e1] at hrt
      have e2 : rfM u = some .long := of_decide_eq_true hrt
      rw [e2] at hr
      intro H locs ls hR hL hS
      exact W.lret hx hb hr (fun t ht hW => ⟨rfl, by rw [ht]; exact hR, hS.F ht⟩) hS.2.2 hd
    · cases hm
  case areturn =>
    obtain rfl : k = 1 := eq_of_beq hk
    simp only [mstep] at hm
    split at hm
    · rename_i v e1
      cases hm
      rw [e1] at hrt
      have e2 : ∃ t, rfM u = some t ∧ ((∃ n, t = .object n) ∨ ∃ t', t = .array t') := by
        exact rtOk_3 hrt
      obtain ⟨t, e3, e4⟩ := e2
      rw [e3] at hr
      intro H locs ls hR hL hS
      have e5 : tV B o (.ref v) = .null ∨ ∃ a, tV B o (.ref v) = .ref a := by
        by_cases e0 : v = 0
        · subst e0; exact Or.inl rfl
        · exact Or.inr ⟨_, tV_r B o e0⟩
      exact W.aret hx hb hr e4 e5 (fun t ht hW => ⟨rfl, by rw [ht]; exact hR, hS.F ht⟩) hS.2.2 hd
    · cases hm
  case return_ =>
    obtain rfl : k = 1 := eq_of_beq hk
    simp only [mstep] at hm
    split at hm
    · rename_i e1
      cases hm
      rw [e1] at hrt
      have e2 : rfM u = none := of_decide_eq_true hrt
      rw [e2] at hr
      intro H locs ls hR hL hS
      exact W.vret hx hb hr (fun t ht hW => ⟨rfl, by rw [ht]; exact hR, hS.F ht⟩) hS.2.2 hd
    · cases hm
  all_goals first
    | (cases hm; done)
    | (simp only [mstep, alR, asR, nxt, nxtG, ldI, ldJ, ldR, slI, slJ, slR, nwQ, nwP, nwR, lnR, alI, alJ, asI, asB, asJ, inJ, gfR, pfR, gsR, jmp, brn, brnG, uI, bI, dI, bJ, dJ, sJ, icI, isp, ins, mthI, mthJ, inv, cll, swM] at hm; (repeat' (split at hm)) <;> cases hm; done)
theorem body_sound (F : FX B o D ca h0 u p s m args meth c) (hFM : FMrow p l e R s m args below meth c Q u) (hcd : CdOk u) {r : MRes} (hM : ∀ w as h r, mcall d N w as h = some r → szA r.2 < 1000000 → w < 326 → okAs as = true → (spr as).length ≤ mxM w → MetM l B o D ca h0 d w as h r) (hrd : d + 1 ≤ R.frames) (hrl : 50 * (d + 1) ≤ R.locals) (hc : szA r.2 ≤ z0 + R.cells) (hs : usA r.2 ≤ u0 + R.slots) (hsz : szA r.2 < 1000000)
    (fin : ∀ pc i k L S h g, decode (cM u) pc = .ok (i, k) → okLen i k = true → mstep (owM u) (rtM u) i pc k L S h = some (g, .inr (.inr (.inr (.inr r)))) → allG g = true → WA p l e R s m args below meth c Q B o D ca h0 u z0 u0 (pc, L, S, h)) :
    ∀ (n : Nat) (st : MN), body (mcall d N) u n st = some r → z0 ≤ szA st.2.2.2 → u0 ≤ usA st.2.2.2 → WA p l e R s m args below meth c Q B o D ca h0 u z0 u0 st := by
  intro n
  induction n with
  | zero => intro st hh; cases hh
  | succ n ih =>
    intro st hh hz0 hu0
    obtain ⟨pc, L, S, h⟩ := st
    change z0 ≤ szA h at hz0
    change u0 ≤ usA h at hu0
    rw [body_s] at hh
    cases hl : lkp (codeM u) pc with
    | none => rw [hl] at hh; cases hh
    | some ik =>
      obtain ⟨i, k⟩ := ik
      simp only [hl] at hh
      obtain ⟨hd, hk, hq⟩ := hcd pc i k hl
      cases hm : mstep (owM u) (rtM u) i pc k L S h with
      | none => rw [hm] at hh; cases hh
      | some ga =>
        obtain ⟨g, a⟩ := ga
        have hmz := mstep_sz hm
        simp only [hm] at hh
        cases hg : allG g with
        | false => rw [hg] at hh; cases hh
        | true =>
          simp only [hg] at hh
          have hbs := fun st hb => body_sz (u := u) (fun w as h r hc => mcall_sz d N w as h r hc) n st r hb
          rcases a with ⟨pc', L', S', h'⟩ | ⟨b, t, pc', L', S', h'⟩ | ⟨x, ps, dt, L', S', h'⟩ | ⟨w, as, pc', L', S', h'⟩ | r'
          · change szA h ≤ szA h' ∧ usA h ≤ usA h' at hmz
            have h1 := hbs _ hh
            change szA h' ≤ szA r.2 ∧ usA h' ≤ usA r.2 at h1
            exact step_next F hFM hd hk hq hm hg hz0 hu0 (by omega) (by omega) (by omega) (by omega) (by omega) (ih _ hh (by show z0 ≤ szA h'; omega) (by show u0 ≤ usA h'; omega))
          · change szA h ≤ szA h' ∧ usA h ≤ usA h' at hmz
            exact step_br F hd hk hm hg (ih _ hh (by show z0 ≤ szA h'; omega) (by show u0 ≤ usA h'; omega))
          · change szA h ≤ szA h' ∧ usA h ≤ usA h' at hmz
            exact step_sw F hd hk hm (ih _ hh (by show z0 ≤ szA h'; omega) (by show u0 ≤ usA h'; omega))
          · change szA h ≤ szA h' ∧ usA h ≤ usA h' at hmz
            dsimp only at hh
            cases hcl : mcall d N w as h' with
            | none => rw [hcl] at hh; cases hh
            | some vh =>
              obtain ⟨v, h2⟩ := vh
              simp only [hcl] at hh
              have h1 := hbs _ hh
              change szA h2 ≤ szA r.2 ∧ usA h2 ≤ usA r.2 at h1
              have h3 := mcall_sz d N w as h' _ hcl
              change szA h' ≤ szA h2 ∧ usA h' ≤ usA h2 at h3
              exact step_call (r := (v, h2)) F hd hk hm hg (fun q1 q2 q3 => hM w as h' (v, h2) hcl (by show szA h2 < 1000000; omega) q1 q2 q3) hrd hrl (by omega) (by omega) h3.1 h3.2 (by show szA h2 ≤ _; omega) (by show usA h2 ≤ _; omega) (ih _ hh (by show z0 ≤ szA h2; omega) (by show u0 ≤ usA h2; omega))
          · cases hh
            exact fin pc i k L S h g hd hk hm hg
end STP
theorem spr_len (B : Nat) (o : Nat → Nat) : ∀ as : List Value, okAs as = true → (lg_sl (as.map (tV B o))).length = (spr as).length
  | [], _ => rfl
  | v :: r, h => by
    unfold okAs at h
    split at h
    · rename_i hv
      have ih := spr_len B o r h
      unfold lg_sl at ih ⊢
      rw [List.map_cons, List.flatMap_cons, List.length_append, ih, tV_cat]
      cases v <;> first | (cases hv; done) | (simp [Value.category, spr]; omega)
    · cases h
theorem spr_at (B : Nat) (o : Nat → Nat) : ∀ (as : List Value) (k : Nat), okAs as = true → ∀ (i : Nat) (v : Value), (spr as)[i]? = some v → v ≠ unV → (k + i, tV B o v) ∈ lv_args k (as.map (tV B o)) ∧ okV v = true
  | [], k, _, i, v, h, _ => by simp [spr] at h
  | w :: r, k, hk, i, v, h, hv => by
    unfold okAs at hk
    split at hk
    · rename_i hw
      have ih := spr_at B o r
      rw [List.map_cons]
      unfold lv_args
      rw [tV_cat]
      cases w
      case long x =>
        simp only [spr] at h
        match i, h with
        | 0, h => cases h; exact ⟨List.mem_cons_self, rfl⟩
        | 1, h => cases h; exact absurd rfl hv
        | i + 2, h =>
          have h2 := ih (k + 2) hk i v h hv
          exact ⟨List.mem_cons_of_mem _ (by rw [show k + (i + 2) = k + 2 + i by omega]; exact h2.1), h2.2⟩
      all_goals first
        | (cases hw; done)
        | (simp only [spr] at h
           match i, h with
           | 0, h => cases h; exact ⟨List.mem_cons_self, rfl⟩
           | i + 1, h =>
             have h2 := ih (k + 1) hk i v h hv
             exact ⟨List.mem_cons_of_mem _ (by rw [show k + (i + 1) = k + 1 + i by omega]; exact h2.1), h2.2⟩)
    · cases hk
theorem ent_LR (B : Nat) (o : Nat → Nat) (u : Nat) (as : List Value) (h1 : okAs as = true) (h2 : (spr as).length ≤ mxM u) : LRr B o ((lg_sl (as.map (tV B o)) ++ List.replicate (mxM u - (lg_sl (as.map (tV B o))).length) Slot.unset).toArray) (mxM u) (entL u as) := by
  have hl := lv_entry (as.map (tV B o)) (n := mxM u) (by rw [spr_len B o as h1]; exact h2)
  have key : ∀ (i : Nat) (v : Value), (entL u as)[i]? = some v → v ≠ unV → (spr as)[i]? = some v := by
    intro i v hi hv
    unfold entL at hi
    rw [List.getElem?_append] at hi
    split at hi
    · exact hi
    · rw [List.getElem?_replicate] at hi
      split at hi
      · cases hi; exact absurd rfl hv
      · cases hi
  refine ⟨hl.1, hl.2.1, by unfold entL; rw [List.length_append, List.length_replicate]; omega, fun i v hi hv => ?_, fun i v hi hv => ?_⟩
  · have h3 := spr_at B o as 0 h1 i v (key i v hi (fun q => by rw [q] at hv; cases hv)) (fun q => by rw [q] at hv; cases hv)
    have h4 := h3.2
    cases v <;> first | (cases h4; done) | (cases hv; done) | exact ⟨_, rfl⟩
  · have h3 := spr_at B o as 0 h1 i v (key i v hi hv) hv
    have h4 := hl.2.2 _ h3.1
    simpa using h4
/-- Math.floorMod's row, wherever the words of the tables hold -/
def FMall (l : Launch) : Prop := ∀ (p : Program) (e : Env) (R : Room) (s : State) (m : MethodId) (args : Array Value) (below : List Frame) (meth : Method) (c : Code) (Q : State → Prop) (u : Nat), p.tables.exec = Jvm.exec → c.code = cM u → c.maxLocals = mxM u → s.vm.findClass (RC (owM u)) = some m.cls → (∀ w ∈ lw_gd, w.before args s = true) → 1 ≤ R.frames → 50 ≤ R.locals → FMrow p l e R s m args below meth c Q u
theorem met_all (l : Launch) (B : Nat) (o : Nat → Nat) (D : va_G) (ca : Nat → ClassId) (h0 : AH) (hFM : FMall l) (hcd : ∀ u, u < 326 → CdOk u) : ∀ (d N u : Nat) (as : List Value) (h : AH) (r : MRes), mcall d N u as h = some r → szA r.2 < 1000000 → u < 326 → okAs as = true → (spr as).length ≤ mxM u → MetM l B o D ca h0 d u as h r := by
  intro d
  induction d with
  | zero => intro N u as h r hh; cases hh
  | succ d ih =>
    intro N u as h r hh hsz hu hok hlen
    obtain ⟨f1, f2, f3, f4, f5, f6, f7, f8, f9, f10, f11⟩ := mt_facts hu
    refine Met.ofW (cc := cM u) (maxL := mxM u) (ret := rfM u) f7 rfl ?_
    intro p e s m args below meth c s₁ Bd hml hP
    obtain ⟨hargs, hC, hR⟩ := hP
    have hts := atoms_spec (ws := wsM u) Bd.pre
    have hts2 : ∀ w ∈ lw_gd, w.before args s = true := fun w hw => hts w (List.mem_cons_of_mem _ hw)
    have hown : s.vm.findClass (RC (owM u)) = some m.cls := by rw [← f6]; exact findClass_of_methodNamed Bd.named
    have F : FX B o D ca h0 u p s m args meth c := ⟨Bd.exec, Bd.bytes, hml, hown, hts2, fun q => by rw [(name_of_methodNamed Bd.named Bd.method).1]; exact (f10 q).1, hC, by rw [hR.1]; exact Nat.le_add_right _ _⟩
    have hz := mcall_sz (d + 1) N u as h r hh
    have hb := body_sound (l := l) (e := e) (R := (headSpec (wsM u) (rmM (d + 1) h r.2)).room) (below := below) (Q := MQ below (QcM B o D ca h0 r) args s (szA r.2 - szA h) (usA r.2 - usA h) (owA B)) (z0 := szA h) (u0 := usA h) (d := d) (N := N) F (hFM p e _ s m args below meth c _ u Bd.exec Bd.bytes hml hown hts2 (by show 1 ≤ d + 1; omega) (by show 50 ≤ 50 * (d + 1); omega)) (hcd u hu) (fun w as h r q1 q2 q3 q4 q5 => ih N w as h r q1 q2 q3 q4 q5) (Nat.le_refl _) (Nat.le_refl _) (by show szA r.2 ≤ szA h + (szA r.2 - szA h); omega) (by show usA r.2 ≤ usA h + (usA r.2 - usA h); omega) hsz (fun pc i k L S h g hd hk hm hg => step_ret F Bd.returns Bd.notSynchronized (rt_ok u hu) hd hk hm hg) N (0, entL u as, [], h) hh (Nat.le_refl _) (Nat.le_refl _)
    have hW := hb s.heap [] _ hR (ent_LR B o u as hok hlen) va_S.rf
    rw [hargs, lg_entry_eq]
    have h1 : szA h - szA h = 0 := Nat.sub_self _
    have h2 : usA h - usA h = 0 := Nat.sub_self _
    simp only [h1, h2] at hW
    subst hargs
    exact hW
