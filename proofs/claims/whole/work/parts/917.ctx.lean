/-! sizes only grow; the context of a method's walk -/
def actH : MAct → AH
  | .inl (_, _, _, h) => h
  | .inr (.inl (_, _, _, _, _, h)) => h
  | .inr (.inr (.inl (_, _, _, _, _, h))) => h
  | .inr (.inr (.inr (.inl (_, _, _, _, _, h)))) => h
  | .inr (.inr (.inr (.inr (_, h)))) => h
set_option maxHeartbeats 4000000 in
theorem mstep_sz {own rt : Nat} {i : Instr} {pc n : Nat} {L S : List Value} {h : AH} {g : List Bool} {a : MAct} (hm : mstep own rt i pc n L S h = some (g, a)) : szA h ≤ szA (actH a) ∧ usA h ≤ usA (actH a) := by
  unfold mstep at hm
  split at hm
  all_goals (try simp only [alR, asR, nxt, nxtG, ldI, ldJ, ldR, slI, slJ, slR, nwQ, nwP, nwR, lnR, alI, alJ, asI, asB, asJ, inJ, gfR, pfR, gsR, jmp, brn, brnG, uI, bI, dI, bJ, dJ, sJ, icI, isp, ins, mthI, mthJ, inv, cll, swM, rtI] at hm)
  all_goals (repeat' (split at hm))
  all_goals first
    | (cases hm; done)
    | (cases hm; exact ⟨Nat.le_refl _, Nat.le_refl _⟩)
    | (cases hm; exact ⟨Nat.le_succ _, Nat.le_add_right _ _⟩)
theorem body_sz {C : Nat → List Value → AH → Option MRes} (hC : ∀ w as h r, C w as h = some r → szA h ≤ szA r.2 ∧ usA h ≤ usA r.2) {u : Nat} : ∀ (n : Nat) (s : MN) (r : MRes), body C u n s = some r → szA s.2.2.2 ≤ szA r.2 ∧ usA s.2.2.2 ≤ usA r.2 := by
  intro n
  induction n with
  | zero => intro s r h; cases h
  | succ n ih =>
    intro s r h
    obtain ⟨pc, L, S, hp⟩ := s
    rw [body_s] at h
    cases hl : lkp (codeM u) pc with
    | none => rw [hl] at h; cases h
    | some ik =>
      obtain ⟨i, k⟩ := ik
      simp only [hl] at h
      cases hm : mstep (owM u) (rtM u) i pc k L S hp with
      | none => rw [hm] at h; cases h
      | some ga =>
        obtain ⟨g, a⟩ := ga
        have hz := mstep_sz hm
        simp only [hm] at h
        cases hg : allG g with
        | false => rw [hg] at h; cases h
        | true =>
          simp only [hg] at h
          rcases a with ⟨pc', L', S', h'⟩ | ⟨b, t, pc', L', S', h'⟩ | ⟨x, ps, e, L', S', h'⟩ | ⟨w, as, pc', L', S', h'⟩ | ⟨v, h'⟩
          · have := ih _ _ h; exact ⟨Nat.le_trans hz.1 this.1, Nat.le_trans hz.2 this.2⟩
          · have := ih _ _ h; exact ⟨Nat.le_trans hz.1 this.1, Nat.le_trans hz.2 this.2⟩
          · have := ih _ _ h; exact ⟨Nat.le_trans hz.1 this.1, Nat.le_trans hz.2 this.2⟩
          · dsimp only at h
            cases hc : C w as h' with
            | none => rw [hc] at h; cases h
            | some vh =>
              obtain ⟨v, h2⟩ := vh
              simp only [hc] at h
              have h3 := hC _ _ _ _ hc
              have := ih _ _ h
              exact ⟨Nat.le_trans hz.1 (Nat.le_trans h3.1 this.1), Nat.le_trans hz.2 (Nat.le_trans h3.2 this.2)⟩
          · cases h
            exact hz
theorem mcall_sz : ∀ (d N u : Nat) (as : List Value) (h : AH) (r : MRes), mcall d N u as h = some r → szA h ≤ szA r.2 ∧ usA h ≤ usA r.2 := by
  intro d
  induction d with
  | zero => intro N u as h r hh; cases hh
  | succ d ih =>
    intro N u as h r hh
    exact body_sz (fun w as h r hc => ih N w as h r hc) N (0, entL u as, [], h) r hh
/-- the array classes -/
def tysA (ca : Nat → ClassId) : List (ClassId × FieldType) := [(ca 20, .int), (ca 21, .long), (ca 22, .byte), (ca 23, .short), (ca 24, .boolean), (ca 30, .object (RC 5)), (ca 31, .object (RC 10)), (ca 32, .object (RC 8)), (ca 33, .object (RC 3))]
def owA (B : Nat) : Nat → Prop := fun q => B ≤ q
/-- the words that every method may take along -/
def lw_gd : List Cond := lw_tbl.filter goodWord
theorem gd_of {w : Cond} (h : w ∈ lw_tbl) (hg : goodWord w = true) : w ∈ lw_gd := List.mem_filter.mpr ⟨h, hg⟩
def isNst : Cond → Bool
  | .methodLinkNest _ _ _ _ => true
  | _ => false
/-- what lies outside: read only -/
def Ctx (B : Nat) (o : Nat → Nat) (D : va_G) (ca : Nat → ClassId) (h0 : AH) (U : State) : Prop :=
  va_K D vwCl (tysA ca) U ∧ U.vm.findClass "[I" = some (ca 20) ∧
  (∀ x, 1000000 ≤ x → kdA h0 x = 40 → va_T .int (o x) (lnA h0 x) (fun j => .int (ivA h0 x j)) (owA B) U U.heap) ∧
  (∀ x, 1000000 ≤ x → kdA h0 x = 42 → va_T .byte (o x) (lnA h0 x) (fun j => .int (ivA h0 x j)) (owA B) U U.heap) ∧
  (∀ x, 1000000 ≤ x → kdA h0 x = 13 → va_O "java/lang/String" (o x) (owA B) U U.heap ∧ va_OF "java/lang/String" "coder" "B" (.int (ivA h0 x 1)) (o x) (owA B) U U.heap ∧ va_OF "java/lang/String" "value" "[B" (va_rf (tN B o (rvA h0 x 0))) (o x) (owA B) U U.heap) ∧
  va_Z "java/lang/String" "COMPACT_STRINGS" "Z" (.int (ivA h0 1000009 1)) (owA B) U U.heap ∧
  va_Z "jdk/internal/util/Preconditions" "SIOOBE_FORMATTER" "Ljava/util/function/BiFunction;" (va_rf (tN B o (rvA h0 1000009 0))) (owA B) U U.heap ∧
  (∀ own i t, sT own i = some t → ∃ tx, vk_R (RC own) i tx (o (1000001 + t)) U) ∧
  (∀ w ∈ lw_tbl, isNst w = true → va_Nw w U) ∧ va_Nw (.castable "[I" "java/lang/Cloneable") U ∧ va_AO (RC 5) U ∧ va_AO (RC 10) U ∧ va_AO (RC 8) U ∧ va_AO (RC 3) U
theorem Ctx.warm {B : Nat} {o : Nat → Nat} {D : va_G} {ca : Nat → ClassId} {h0 : AH} {s U : State} (C : Ctx B o D ca h0 s) (hW : s.WarmedH U.vm) (hq : ∀ a : Nat, a < s.heap.size → ¬ owA B a → U.heap[a]? = s.heap[a]?) : Ctx B o D ca h0 U := by
  obtain ⟨c1, c2, c3, c4, c5, c6, c7, c8, c9, c10, c11, c12, c13, c14⟩ := C
  have ha := hW.alike
  refine ⟨va_K.moved ha c1, by rw [ha.findClass]; exact c2, fun x hx hk => va_T.moved ha ((c3 x hx hk).kept hq), fun x hx hk => va_T.moved ha ((c4 x hx hk).kept hq), fun x hx hk => ?_, va_Z.moved ha (c6.kept hq), va_Z.moved ha (c7.kept hq), fun own i t h => ?_, fun w hw hn => ?_, c10.warmC hW, va_AO.moved ha c11, va_AO.moved ha c12, va_AO.moved ha c13, va_AO.moved ha c14⟩
  · obtain ⟨d1, d2, d3⟩ := c5 x hx hk
    exact ⟨va_O.moved ha (d1.kept hq), va_OF.moved ha (d2.kept hq), va_OF.moved ha (d3.kept hq)⟩
  · obtain ⟨tx, hr⟩ := c8 own i t h
    exact ⟨tx, hr.warm hW⟩
  · have h9 := c9 w hw hn
    cases w <;> first | (cases hn; done) | exact va_Nw.warmM hW h9
theorem Ctx.same {B : Nat} {o : Nat → Nat} {D : va_G} {ca : Nat → ClassId} {h0 : AH} {s U : State} (C : Ctx B o D ca h0 s) (hv : U.vm = s.vm) (hh : U.heap = s.heap) : Ctx B o D ca h0 U := by
  obtain ⟨c1, c2, c3, c4, c5, c6, c7, c8, c9, c10, c11, c12, c13, c14⟩ := C
  have ha : s.vm.Alike U.vm := by rw [hv]; exact Vm.Alike.refl _
  refine ⟨va_K.moved ha c1, by rw [hv]; exact c2, fun x hx hk => ?_, fun x hx hk => ?_, fun x hx hk => ?_, ?_, ?_, fun own i t h => ?_, fun w hw hn => ?_, va_Nw.same rfl hv.symm c10, va_AO.moved ha c11, va_AO.moved ha c12, va_AO.moved ha c13, va_AO.moved ha c14⟩
  · rw [hh]; exact va_T.moved ha (c3 x hx hk)
  · rw [hh]; exact va_T.moved ha (c4 x hx hk)
  · obtain ⟨d1, d2, d3⟩ := c5 x hx hk
    rw [hh]
    exact ⟨va_O.moved ha d1, va_OF.moved ha d2, va_OF.moved ha d3⟩
  · rw [hh]; exact va_Z.moved ha c6
  · rw [hh]; exact va_Z.moved ha c7
  · obtain ⟨tx, hr⟩ := c8 own i t h
    exact ⟨tx, hr.same hv⟩
  · have h9 := c9 w hw hn
    cases w <;> first | (cases hn; done) | exact va_Nw.same rfl hv.symm h9
/-- the lengths of the instructions -/
def okLen (i : Instr) (k : Nat) : Bool := match i with
  | .aload _ => k == 2
  | .astore _ => k == 2
  | .iload _ => k == 2
  | .istore _ => k == 2
  | .lload _ => k == 2
  | .lstore _ => k == 2
  | .bipush _ => k == 2
  | .newarray _ => k == 2
  | .ldc _ => k == 2
  | .sipush _ => k == 3
  | .iinc _ _ => k == 3
  | .goto _ => k == 3
  | .ifCond _ _ => k == 3
  | .if_icmp _ _ => k == 3
  | .if_acmp _ _ => k == 3
  | .ifnonnull _ => k == 3
  | .getfield _ => k == 3
  | .putfield _ => k == 3
  | .getstatic _ => k == 3
  | .invokevirtual _ => k == 3
  | .invokestatic _ => k == 3
  | .invokespecial _ => k == 3
  | .new _ => k == 3
  | .anewarray _ => k == 3
  | .checkcast _ => k == 3
  | .ldc_w _ => k == 3
  | .ldc2_w _ => k == 3
  | .tableswitch _ lo hi _ => decide (-2147483648 ≤ lo) && decide (hi ≤ 2147483647)
  | .lookupswitch _ ps => (ps.toList.zip (ps.toList.drop 1)).all (fun (a, next) => a.1 < next.1) && ps.toList.all (fun q => decide (-2147483648 ≤ q.1) && decide (q.1 ≤ 2147483647))
  | _ => k == 1
