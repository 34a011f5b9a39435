/-! the reference: reckons, mayDraw, oddsOf and what rests on them -/
theorem MLaw.at {code : List Nat} {law : Nat} {h : AH} (L : MLaw code law 0 h) (hne : code ≠ []) : ∃ fr : Nat, fr + code.length ≤ 900 ∧ ivA h 89 (6 + law) = kI fr ∧ ivA h 89 (8 + law) = kI code.length ∧ ∀ k, k < code.length → ivA h 89 (101 + fr + k) = kI (code.getD k 0 : Nat) := by
  obtain ⟨fr, h1, h2, h3, h4⟩ := L.2 hne
  refine ⟨fr, h1, ?_, ?_, fun k hk => ?_⟩
  · rw [← h2, show 0 + 6 + law = 6 + law by omega]
  · rw [← h3, show 0 + 8 + law = 8 + law by omega]
  · rw [← h4 k hk, show 0 + 101 + fr + k = 101 + fr + k by omega]
theorem M_reck_loop {s : ST} {y : DY} {h0 : AH} (C0 : MC s y h0) {code : List Nat} {law fr : Nat} {b : Bool} (hl : law = 0 ∨ law = 1) (l1 : fr + code.length ≤ 900) (l2 : ivA h0 89 (6 + law) = kI fr) (l3 : ivA h0 89 (8 + law) = kI code.length) (l4 : ∀ k, k < code.length → ivA h0 89 (101 + fr + k) = kI (code.getD k 0 : Nat)) {w : Nat → Int} (hb : ∀ k, k < 8 → -1000000 ≤ w k ∧ w k ≤ 1000000) {nw : Nat} (hnw : nw ≤ 8) (hu : ∀ c ∈ code, 1000 ≤ c → c < 1008 → c < 1000 + nw) :
    ∀ (rest pre : List Nat) (st : List Int) (t : List Bool) (h : AH), code = pre ++ rest → tyR rest t = some [b] → Tyd t st → Stk h 93 st → Fr IM JM h0 h → (∀ k, k < nw → ivA h 94 k = kI (w k)) → st.length ≤ 64 →
    Safe 3 m_M_reckons (55, [.ref 88, .int (kI law), unV, unV, .int (kI st.length), .int (kI pre.length), unV], [], h) (fun v h' => v = some (.int (kI ((runC w rest st).headD 0))) ∧ Fr IM JM h0 h') := by
  intro rest
  induction rest with
  | nil =>
    intro pre st t h hc ht hT hS hF hW _
    have C := C0.fr hF
    have F := C.fix
    have e89 : ∀ k, ivA h 89 k = ivA h0 89 k := fun k => hF.2.2.2.2.2.1 89 k (nIM (by omega) (by omega) (by omega))
    rw [List.append_nil] at hc
    subst hc
    cases ht
    match st, hT, hS with
    | [v], hT, hS =>
      have hS1 : ivA h 93 0 = kI v := hS.1
      refine s_M_reckons_55 ?_
      simp (disch := omega) only [kd_88 F, kd_89 F, kd_90 F, kd_91 F, kd_92 F, kd_93 F, kd_94 F, kd_95 F, kd_96 F, kd_97 F, kd_98 F, kd_99 F, kd_100 F, kd_101 F, kd_102 F, kd_103 F, kd_104 F, kd_105 F, ln_89 F, ln_90 F, ln_91 F, ln_92 F, ln_93 F, ln_94 F, ln_95 F, ln_96 F, ln_97 F, ln_98 F, ln_99 F, ln_100 F, ln_101 F, ln_102 F, ln_103 F, ln_104 F, ln_105 F, rv_88_1 F, rv_88_2 F, rv_88_3 F, rv_88_4 F, rv_88_16 F, rv_88_17 F, rv_88_18 F, rv_88_21 F, rv_88_22 F, rv_88_23 F, rv_88_24 F, rv_88_25 F, rv_88_26 F, rv_88_27 F, rv_88_28 F, rv_88_29 F, rv_88_30 F, ix_lit, inB_lit, decide_true, Bool.true_or, true_and, kI_add, tn_add, Int.toNat_natCast, Int.reduceToNat, e89, l2, l3, hS1, kI_le, decide_eq_true_eq, Int.le_refl, if_true]
      exact ⟨rfl, hF⟩
    | [], hT, _ => exact hT.elim
    | _ :: _ :: _, hT, _ => exact hT.2.2.2.elim
  | cons c rest ih =>
    intro pre st t h hc ht hT hS hF hW hlen
    have C := C0.fr hF
    have F := C.fix
    have e89 : ∀ k, ivA h 89 k = ivA h0 89 k := fun k => hF.2.2.2.2.2.1 89 k (nIM (by omega) (by omega) (by omega))
    have hlc : pre.length < code.length := by rw [hc, List.length_append]; simp
    have hcc : code.getD pre.length 0 = c := by
      rw [hc, List.getD_eq_getElem?_getD, List.getElem?_append_right (by omega)]
      simp
    have l4' : ivA h0 89 (101 + fr + pre.length) = kI c := by rw [l4 _ hlc, hcc]
    have hmem : c ∈ code := by rw [hc]; simp
    unfold tyR at ht
    cases e : ty1 c t with
    | none => rw [e] at ht; cases ht
    | some t' =>
      rw [e] at ht
      dsimp only at ht
      have hk := ty_kind e
      have hT' := Tyd_step hb e hT
      have hpre : code = (pre ++ [c]) ++ rest := by rw [hc]; simp
      have hpl : ((pre ++ [c]).length : Int) = (pre.length : Int) + 1 := by simp
      have tl := Tyd_len hT
      have ihh := fun h' => ih (pre ++ [c]) (lstp w c st) t' h' hpre ht hT'
      rw [hpl] at ihh
      refine s_M_reckons_55 ?_
      by_cases k1 : c < 1008
      · have hp := ty_push e k1
        by_cases k2 : c < 1000
        · simp (disch := omega) only [kd_88 F, kd_89 F, kd_90 F, kd_91 F, kd_92 F, kd_93 F, kd_94 F, kd_95 F, kd_96 F, kd_97 F, kd_98 F, kd_99 F, kd_100 F, kd_101 F, kd_102 F, kd_103 F, kd_104 F, kd_105 F, ln_89 F, ln_90 F, ln_91 F, ln_92 F, ln_93 F, ln_94 F, ln_95 F, ln_96 F, ln_97 F, ln_98 F, ln_99 F, ln_100 F, ln_101 F, ln_102 F, ln_103 F, ln_104 F, ln_105 F, rv_88_1 F, rv_88_2 F, rv_88_3 F, rv_88_4 F, rv_88_16 F, rv_88_17 F, rv_88_18 F, rv_88_21 F, rv_88_22 F, rv_88_23 F, rv_88_24 F, rv_88_25 F, rv_88_26 F, rv_88_27 F, rv_88_28 F, rv_88_29 F, rv_88_30 F, ix_lit, inB_lit, decide_true, Bool.true_or, true_and, kI_add, tn_add, Int.toNat_natCast, Int.reduceToNat, e89, l2, l3, l4', kI_le, decide_eq_true_eq]
          rw [if_neg (by omega), if_neg (by omega), if_neg (by omega)]
          refine s_M_reckons_129 ?_
          simp (disch := omega) only [kd_88 F, kd_89 F, kd_90 F, kd_91 F, kd_92 F, kd_93 F, kd_94 F, kd_95 F, kd_96 F, kd_97 F, kd_98 F, kd_99 F, kd_100 F, kd_101 F, kd_102 F, kd_103 F, kd_104 F, kd_105 F, ln_89 F, ln_90 F, ln_91 F, ln_92 F, ln_93 F, ln_94 F, ln_95 F, ln_96 F, ln_97 F, ln_98 F, ln_99 F, ln_100 F, ln_101 F, ln_102 F, ln_103 F, ln_104 F, ln_105 F, rv_88_1 F, rv_88_2 F, rv_88_3 F, rv_88_4 F, rv_88_16 F, rv_88_17 F, rv_88_18 F, rv_88_21 F, rv_88_22 F, rv_88_23 F, rv_88_24 F, rv_88_25 F, rv_88_26 F, rv_88_27 F, rv_88_28 F, rv_88_29 F, rv_88_30 F, ix_lit, inB_lit, decide_true, true_and, Int.toNat_natCast, kI_add]
          have es : lstp w c st = (c : Int) :: st := by unfold lstp; rw [if_pos k2]
          rw [es] at ihh
          have := ihh (stI h 93 st.length (kI c)) (Stk_push hS _) (hF.stI (Or.inl rfl) _) (fun k hk => by rw [iv_stI, if_neg (by omega)]; exact hW k hk) (by simp; omega)
          rw [show (((c : Int) :: st).length : Int) = (st.length : Int) + 1 by simp] at this
          have es2 : runC w (c :: rest) st = runC w rest ((c : Int) :: st) := by show runC w rest (lstp w c st) = _; rw [es]
          rw [es2]
          exact this
        · have k3 := hu c hmem (by omega) k1
          have hwk := hW (c - 1000) (by omega)
          have ec : ((c : Int) - 1000) = ((c - 1000 : Nat) : Int) := by omega
          simp (disch := omega) only [kd_88 F, kd_89 F, kd_90 F, kd_91 F, kd_92 F, kd_93 F, kd_94 F, kd_95 F, kd_96 F, kd_97 F, kd_98 F, kd_99 F, kd_100 F, kd_101 F, kd_102 F, kd_103 F, kd_104 F, kd_105 F, ln_89 F, ln_90 F, ln_91 F, ln_92 F, ln_93 F, ln_94 F, ln_95 F, ln_96 F, ln_97 F, ln_98 F, ln_99 F, ln_100 F, ln_101 F, ln_102 F, ln_103 F, ln_104 F, ln_105 F, rv_88_1 F, rv_88_2 F, rv_88_3 F, rv_88_4 F, rv_88_16 F, rv_88_17 F, rv_88_18 F, rv_88_21 F, rv_88_22 F, rv_88_23 F, rv_88_24 F, rv_88_25 F, rv_88_26 F, rv_88_27 F, rv_88_28 F, rv_88_29 F, rv_88_30 F, ix_lit, inB_lit, decide_true, Bool.true_or, true_and, kI_add, kI_sub, ec, tn_add, Int.toNat_natCast, Int.reduceToNat, e89, l2, l3, l4', kI_le, decide_eq_true_eq, hwk]
          rw [if_neg (by omega), if_neg (by omega), if_pos (by omega)]
          refine s_M_reckons_129 ?_
          simp (disch := omega) only [kd_88 F, kd_89 F, kd_90 F, kd_91 F, kd_92 F, kd_93 F, kd_94 F, kd_95 F, kd_96 F, kd_97 F, kd_98 F, kd_99 F, kd_100 F, kd_101 F, kd_102 F, kd_103 F, kd_104 F, kd_105 F, ln_89 F, ln_90 F, ln_91 F, ln_92 F, ln_93 F, ln_94 F, ln_95 F, ln_96 F, ln_97 F, ln_98 F, ln_99 F, ln_100 F, ln_101 F, ln_102 F, ln_103 F, ln_104 F, ln_105 F, rv_88_1 F, rv_88_2 F, rv_88_3 F, rv_88_4 F, rv_88_16 F, rv_88_17 F, rv_88_18 F, rv_88_21 F, rv_88_22 F, rv_88_23 F, rv_88_24 F, rv_88_25 F, rv_88_26 F, rv_88_27 F, rv_88_28 F, rv_88_29 F, rv_88_30 F, ix_lit, inB_lit, decide_true, true_and, Int.toNat_natCast, kI_add]
          have es : lstp w c st = w (c - 1000) :: st := by unfold lstp; rw [if_neg k2, if_pos (by omega)]
          rw [es] at ihh
          have := ihh (stI h 93 st.length (kI (w (c - 1000)))) (Stk_push hS _) (hF.stI (Or.inl rfl) _) (fun k hk => by rw [iv_stI, if_neg (by omega)]; exact hW k hk) (by simp; omega)
          rw [show ((w (c - 1000) :: st).length : Int) = (st.length : Int) + 1 by simp] at this
          have es2 : runC w (c :: rest) st = runC w rest (w (c - 1000) :: st) := by show runC w rest (lstp w c st) = _; rw [es]
          rw [es2]
          exact this
      · by_cases k2 : c = 3006
        · subst k2
          obtain ⟨v, q, rfl, hv⟩ := Tyd_one e hT
          have hS1 : ivA h 93 q.length = kI v := hS.1
          have el : (((v :: q).length : Nat) : Int) - 1 = (q.length : Int) := by simp
          have hq : q.length ≤ 63 := by simp at hlen; omega
          simp (disch := omega) only [kd_88 F, kd_89 F, kd_90 F, kd_91 F, kd_92 F, kd_93 F, kd_94 F, kd_95 F, kd_96 F, kd_97 F, kd_98 F, kd_99 F, kd_100 F, kd_101 F, kd_102 F, kd_103 F, kd_104 F, kd_105 F, ln_89 F, ln_90 F, ln_91 F, ln_92 F, ln_93 F, ln_94 F, ln_95 F, ln_96 F, ln_97 F, ln_98 F, ln_99 F, ln_100 F, ln_101 F, ln_102 F, ln_103 F, ln_104 F, ln_105 F, rv_88_1 F, rv_88_2 F, rv_88_3 F, rv_88_4 F, rv_88_16 F, rv_88_17 F, rv_88_18 F, rv_88_21 F, rv_88_22 F, rv_88_23 F, rv_88_24 F, rv_88_25 F, rv_88_26 F, rv_88_27 F, rv_88_28 F, rv_88_29 F, rv_88_30 F, ix_lit, inB_lit, decide_true, Bool.true_or, true_and, kI_add, kI_sub, el, tn_add, Int.toNat_natCast, Int.reduceToNat, e89, l2, l3, l4', kI_le, decide_eq_true_eq, hS1, Bool.not_eq_true', decide_eq_false_iff_not, not_true_eq_false, if_false]
          rw [if_neg (by omega), if_pos (by omega)]
          have es : lstp w 3006 (v :: q) = (1 - v) :: q := by unfold lstp; rw [if_neg (by omega), if_neg (by omega), if_pos rfl]
          rw [es] at ihh
          have := ihh (stI h 93 q.length (kI (1 - v))) (Stk_push hS.2 _) (hF.stI (Or.inl rfl) _) (fun k hk => by rw [iv_stI, if_neg (by omega)]; exact hW k hk) (by simp; omega)
          have es2 : runC w (3006 :: rest) (v :: q) = runC w rest ((1 - v) :: q) := by show runC w rest (lstp w 3006 (v :: q)) = _; rw [es]
          rw [es2]
          exact this
        · obtain ⟨v, u, q, rfl, v1, v2, u1, u2, hvu, c1, c2⟩ := Tyd_two e hT k1 k2
          have hS1 : ivA h 93 (q.length + 1) = kI v := hS.1
          have hS2 : ivA h 93 q.length = kI u := hS.2.1
          have el : (((v :: u :: q).length : Nat) : Int) + -1 = ((q.length + 1 : Nat) : Int) := by simp; omega
          have el2 : (((q.length + 1 : Nat)) : Int) - 1 = (q.length : Int) := by simp
          have hq : q.length ≤ 62 := by simp at hlen; omega
          simp (disch := omega) only [kd_88 F, kd_89 F, kd_90 F, kd_91 F, kd_92 F, kd_93 F, kd_94 F, kd_95 F, kd_96 F, kd_97 F, kd_98 F, kd_99 F, kd_100 F, kd_101 F, kd_102 F, kd_103 F, kd_104 F, kd_105 F, ln_89 F, ln_90 F, ln_91 F, ln_92 F, ln_93 F, ln_94 F, ln_95 F, ln_96 F, ln_97 F, ln_98 F, ln_99 F, ln_100 F, ln_101 F, ln_102 F, ln_103 F, ln_104 F, ln_105 F, rv_88_1 F, rv_88_2 F, rv_88_3 F, rv_88_4 F, rv_88_16 F, rv_88_17 F, rv_88_18 F, rv_88_21 F, rv_88_22 F, rv_88_23 F, rv_88_24 F, rv_88_25 F, rv_88_26 F, rv_88_27 F, rv_88_28 F, rv_88_29 F, rv_88_30 F, ix_lit, inB_lit, decide_true, Bool.true_or, true_and, kI_add, kI_sub, el, el2, tn_add, Int.toNat_natCast, Int.reduceToNat, e89, l2, l3, l4', kI_le, decide_eq_true_eq, hS1, hS2, Bool.not_eq_true', decide_eq_false_iff_not, M_between_c, kI_inj]
          rw [if_neg (by omega), if_pos (by omega), if_pos (by omega)]
          have es : lstp w c (v :: u :: q) = btw c u v :: q := by unfold lstp; rw [if_neg (by omega), if_neg (by omega), if_neg k2]
          rw [es] at ihh
          have := ihh (stI h 93 q.length (kI (btw c u v))) (Stk_push hS.2.2 _) (hF.stI (Or.inl rfl) _) (fun k hk => by rw [iv_stI, if_neg (by omega)]; exact hW k hk) (by simp; omega)
          have es2 : runC w (c :: rest) (v :: u :: q) = runC w rest (btw c u v :: q) := by show runC w rest (lstp w c (v :: u :: q)) = _; rw [es]
          rw [es2]
          exact this
