theorem wdP_b {s : ST} (w : WFS s) {c m : Nat} (hc : c < sN s) (k : Nat) : -1000000 ≤ wdP s c m k ∧ wdP s c m k ≤ 1000000 := by
  have n2 := w.n12
  have k8 := w.2.2.2.2.2.2.2.1 c
  have p1 := pop_le m
  have p2 : nearF s c m ≤ sN s := cnt_le _ _
  unfold wdP
  split
  · omega
  · split
    · omega
    · split <;> omega
theorem wdF_b {s : ST} (w : WFS s) {hd hb c m l : Nat} (h1 : hd < 100) (h2 : hb < 100) (hc : c < sN s) (hl : l ≤ 12) (k : Nat) : -1000000 ≤ wdF s hd hb c m l k ∧ wdF s hd hb c m l k ≤ 1000000 := by
  have n2 := w.n12
  have k8 := w.2.2.2.2.2.2.2.1 l
  have f := farF_lt w (show c < 100 by omega) hl
  have p := wdP_b w (m := m) hc k
  unfold wdF
  split
  · exact p
  · split
    · omega
    · split
      · omega
      · split
        · split <;> omega
        · omega
theorem M_reckons_g {s : ST} {y : DY} {h : AH} (C : MC s y h) {code : List Nat} {law : Nat} {b : Bool} (hl : law = 0 ∨ law = 1) (L : MLaw code law 0 h) (hne : code ≠ []) (hty : tyR code [] = some [b]) {w : Nat → Int} {c m nw : Nat} (hc : c < sN s) (hm : m < 4096) (hw : ∀ k, k < 4 → w k = wdP s c m k) (hnw : nw ≤ 8) (hw2 : ∀ k, 4 ≤ k → k < nw → ivA h 94 k = kI (w k)) (hb : ∀ k, k < 8 → -1000000 ≤ w k ∧ w k ≤ 1000000) (hu : ∀ c ∈ code, 1000 ≤ c → c < 1008 → c < 1000 + nw) : GI 4 m_M_reckons [.ref 88, .int (kI law), .int (kI c), .int (kI m)] h (kI (evl w code)) (Fr IM JM h) := by
  obtain ⟨fr, l1, l2, l3, l4⟩ := L.at hne
  have F := C.fix
  have n2 := C.wf.n12
  have p1 := pop_le m
  refine GI_of (s_M_reckons_0 ?_)
  have f1 : Fr IM JM h (stI h 94 0 (kI c)) := (Fr_rfl IM JM h).stI (Or.inr (Or.inl rfl)) _
  have f2 := f1.stI (show IM 94 1 from Or.inr (Or.inl rfl)) (kI (sK s c))
  have C2 := C.fr f2
  have f3 := f2.stI (show IM 94 2 from Or.inr (Or.inl rfl)) (kI (nearF s c m))
  have C3 := C.fr f3
  have f4 := f3.stI (show IM 94 3 from Or.inr (Or.inl rfl)) (kI ((sN s : Int) - pop m))
  simp (disch := omega) only [kd_88 F, kd_89 F, kd_90 F, kd_91 F, kd_92 F, kd_93 F, kd_94 F, kd_95 F, kd_96 F, kd_97 F, kd_98 F, kd_99 F, kd_100 F, kd_101 F, kd_102 F, kd_103 F, kd_104 F, kd_105 F, ln_89 F, ln_90 F, ln_91 F, ln_92 F, ln_93 F, ln_94 F, ln_95 F, ln_96 F, ln_97 F, ln_98 F, ln_99 F, ln_100 F, ln_101 F, ln_102 F, ln_103 F, ln_104 F, ln_105 F, rv_88_1 F, rv_88_2 F, rv_88_3 F, rv_88_4 F, rv_88_16 F, rv_88_17 F, rv_88_18 F, rv_88_21 F, rv_88_22 F, rv_88_23 F, rv_88_24 F, rv_88_25 F, rv_88_26 F, rv_88_27 F, rv_88_28 F, rv_88_29 F, rv_88_30 F, ix_lit, inB_lit, decide_true, Bool.true_or, Bool.or_true, true_and, and_true, kI_add, kI_sub, kI_mul, tn_add, Int.toNat_natCast, Int.reduceToNat, kI_le, kI_lt, kI_inj, decide_eq_true_eq, Bool.not_eq_true', decide_eq_false_iff_not, not_true_eq_false, not_false_eq_true, Classical.not_not, Bool.false_eq_true, if_true, if_false, z0, bI_k0, bI_k1, isB_b, isB_0, isB_1, kI_long, kd_stI, ln_stI, rv_stI, iv_stI, C.ik, Nat.reduceEqDiff, false_and, if_false, M_nearOf_c C2, M_cells_c C3, M_bits_c]
  have := M_reck_loop C hl l1 l2 l3 l4 hb hnw hu code [] [] [] _ rfl hty trivial trivial f4 ?_ (by simp)
  · exact this
  · intro k hk
    simp only [iv_stI]
    by_cases k3 : k = 3
    · subst k3
      rw [if_pos (by simp), hw 3 (by omega)]
      rfl
    · rw [if_neg (by omega)]
      by_cases k2 : k = 2
      · subst k2
        rw [if_pos (by simp), hw 2 (by omega)]
        rfl
      · rw [if_neg (by omega)]
        by_cases k1 : k = 1
        · subst k1
          rw [if_pos (by simp), hw 1 (by omega)]
          rfl
        · rw [if_neg (by omega)]
          by_cases k0 : k = 0
          · subst k0
            rw [if_pos (by simp), hw 0 (by omega)]
            rfl
          · rw [if_neg (by omega)]
            exact hw2 k (by omega) hk
theorem Tyd_run {w : Nat → Int} (hw : ∀ k, k < 8 → -1000000 ≤ w k ∧ w k ≤ 1000000) : ∀ (rest : List Nat) {t t' : List Bool} {st : List Int}, tyR rest t = some t' → Tyd t st → Tyd t' (runC w rest st)
  | [], t, t', st, e, H => by cases e; exact H
  | c :: r, t, t', st, e, H => by
    unfold tyR at e
    cases e1 : ty1 c t with
    | none => rw [e1] at e; cases e
    | some t1 =>
      rw [e1] at e
      exact Tyd_run hw r e (Tyd_step hw e1 H)
theorem evl_num {w : Nat → Int} (hw : ∀ k, k < 8 → -1000000 ≤ w k ∧ w k ≤ 1000000) {code : List Nat} {b : Bool} (e : tyR code [] = some [b]) : -1000000 ≤ evl w code ∧ evl w code ≤ 1000000 := by
  have T := Tyd_run hw code e (st := []) trivial
  unfold evl
  match runC w code [], T with
  | [v], T => exact ⟨T.2.1, T.2.2.1⟩
theorem evl_truth {w : Nat → Int} (hw : ∀ k, k < 8 → -1000000 ≤ w k ∧ w k ≤ 1000000) {code : List Nat} (e : tyR code [] = some [true]) : evl w code = 0 ∨ evl w code = 1 := by
  have T := Tyd_run hw code e (st := []) trivial
  unfold evl
  match runC w code [], T with
  | [v], T => exact T.1 rfl
theorem M_mayDraw_g {s : ST} {y : DY} {h : AH} (C : MC s y h) {hd c m l : Nat} (h1 : hd < 4) (hc : c < sN s) (hm : m < 4096) (hl : l = 12 ∨ l < sN s) : GI 5 m_M_mayDraw [.ref 88, .int (kI hd), .int (kI c), .int (kI m), .int (kI l)] h (bI32 (mayF s hd (yB y hd) c m l = true)) (Fr IM JM h) := by
  have F := C.fix
  have n2 := C.wf.n12
  have hb9 := C.wy.2.2.2.2 hd
  have L := C.lawM
  have L1 : ivA h 89 4 = kI (if sM s = [] then 0 else 1) := L.1
  refine GI_of (s_M_mayDraw_0 ?_)
  unfold mayF
  by_cases q : m.testBit c = true
  · simp (disch := omega) only [ix_lit, inB_lit, decide_true, Bool.true_or, Bool.or_true, true_and, and_true, kI_add, kI_sub, kI_mul, tn_add, Int.toNat_natCast, Int.reduceToNat, kI_le, kI_lt, kI_inj, decide_eq_true_eq, Bool.not_eq_true', decide_eq_false_iff_not, not_true_eq_false, not_false_eq_true, Classical.not_not, Bool.false_eq_true, if_true, if_false, z0, bI_k0, bI_k1, isB_b, isB_0, isB_1, kI_long, kd_stI, ln_stI, rv_stI, M_isIn_c, q, if_false]
    exact ⟨rfl, Fr_rfl _ _ _⟩
  · have q' : m.testBit c = false := by simpa using q
    by_cases q2 : sM s = []
    · rw [if_pos q2] at L1
      simp (disch := omega) only [kd_88 F, kd_89 F, kd_90 F, kd_91 F, kd_92 F, kd_93 F, kd_94 F, kd_95 F, kd_96 F, kd_97 F, kd_98 F, kd_99 F, kd_100 F, kd_101 F, kd_102 F, kd_103 F, kd_104 F, kd_105 F, ln_89 F, ln_90 F, ln_91 F, ln_92 F, ln_93 F, ln_94 F, ln_95 F, ln_96 F, ln_97 F, ln_98 F, ln_99 F, ln_100 F, ln_101 F, ln_102 F, ln_103 F, ln_104 F, ln_105 F, rv_88_1 F, rv_88_2 F, rv_88_3 F, rv_88_4 F, rv_88_16 F, rv_88_17 F, rv_88_18 F, rv_88_21 F, rv_88_22 F, rv_88_23 F, rv_88_24 F, rv_88_25 F, rv_88_26 F, rv_88_27 F, rv_88_28 F, rv_88_29 F, rv_88_30 F, ix_lit, inB_lit, decide_true, Bool.true_or, Bool.or_true, true_and, and_true, kI_add, kI_sub, kI_mul, tn_add, Int.toNat_natCast, Int.reduceToNat, kI_le, kI_lt, kI_inj, decide_eq_true_eq, Bool.not_eq_true', decide_eq_false_iff_not, not_true_eq_false, not_false_eq_true, Classical.not_not, Bool.false_eq_true, if_true, if_false, z0, bI_k0, bI_k1, isB_b, isB_0, isB_1, kI_long, kd_stI, ln_stI, rv_stI, M_isIn_c, q', L1, if_true, if_false, q2]
      exact ⟨rfl, Fr_rfl _ _ _⟩
    · rw [if_neg q2] at L1
      have hty : tyR (sM s) [] = some [true] := by
        rcases C.wf.2.2.2.2.2.2.2.2.1 with e | e
        · exact absurd e q2
        · exact e
      have f1 : Fr IM JM h (stI h 94 4 (kI hd)) := (Fr_rfl IM JM h).stI (Or.inr (Or.inl rfl)) _
      have f2 := f1.stI (show IM 94 5 from Or.inr (Or.inl rfl)) (kI (yB y hd))
      have f3 := f2.stI (show IM 94 6 from Or.inr (Or.inl rfl)) (kI (if l = 12 then 9 else sK s l))
      have C3 := C.fr f3
      have f4 := f3.stI (show IM 94 7 from Or.inr (Or.inl rfl)) (kI (farF s c l))
      have C4 := C.fr f4
      have F2 := f2.fix F
      have F3 := f3.fix F
      have key : Safe 4 m_M_mayDraw (72, [.ref 88, unV, .int (kI c), .int (kI m), .int (kI l)], [.int (kI (if l = 12 then 9 else sK s l)), .int (kI 6), .ref 94], stI (stI h 94 4 (kI hd)) 94 5 (kI (yB y hd))) (fun v k => v = some (.int (bI32 ((!m.testBit c && (sM s == [] || evl (wdF s hd (yB y hd) c m l) (sM s) == 1)) = true))) ∧ Fr IM JM h k) := by
        refine s_M_mayDraw_72 ?_
        simp (disch := omega) only [kd_88 F, kd_89 F, kd_90 F, kd_91 F, kd_92 F, kd_93 F, kd_94 F, kd_95 F, kd_96 F, kd_97 F, kd_98 F, kd_99 F, kd_100 F, kd_101 F, kd_102 F, kd_103 F, kd_104 F, kd_105 F, ln_89 F, ln_90 F, ln_91 F, ln_92 F, ln_93 F, ln_94 F, ln_95 F, ln_96 F, ln_97 F, ln_98 F, ln_99 F, ln_100 F, ln_101 F, ln_102 F, ln_103 F, ln_104 F, ln_105 F, rv_88_1 F, rv_88_2 F, rv_88_3 F, rv_88_4 F, rv_88_16 F, rv_88_17 F, rv_88_18 F, rv_88_21 F, rv_88_22 F, rv_88_23 F, rv_88_24 F, rv_88_25 F, rv_88_26 F, rv_88_27 F, rv_88_28 F, rv_88_29 F, rv_88_30 F, ix_lit, inB_lit, decide_true, Bool.true_or, Bool.or_true, true_and, and_true, kI_add, kI_sub, kI_mul, tn_add, Int.toNat_natCast, Int.reduceToNat, kI_le, kI_lt, kI_inj, decide_eq_true_eq, Bool.not_eq_true', decide_eq_false_iff_not, not_true_eq_false, not_false_eq_true, Classical.not_not, Bool.false_eq_true, if_true, if_false, z0, bI_k0, bI_k1, isB_b, isB_0, isB_1, kI_long, kd_stI, ln_stI, rv_stI, M_farOf_c C3]
        refine GI.use (M_reckons_g C4 (law := 0) (w := wdF s hd (yB y hd) c m l) (nw := 8) (Or.inl rfl) C4.lawM q2 hty hc hm (fun k hk => by unfold wdF; rw [if_pos hk]) (by omega) (fun k k4 k8 => ?_) (fun k _ => wdF_b C.wf (by omega) (by omega) hc (by omega) k) (fun c _ _ h8 => h8)) (by omega) (fun h5 e5 => ?_)
        · simp only [iv_stI]
          unfold wdF
          have e : k = 4 ∨ k = 5 ∨ k = 6 ∨ k = 7 := by omega
          rcases e with rfl | rfl | rfl | rfl
          · rfl
          · rfl
          · show kI (if l = 12 then 9 else (sK s l : Int)) = _
            rfl
          · rfl
        · have eb := wdF_b C.wf (m := m) (show hd < 100 by omega) (show yB y hd < 100 by omega) hc (show l ≤ 12 by omega)
          have fin := f4.trans e5
          rw [q']
          have eq : (sM s == []) = false := by simpa using q2
          rw [eq]
          by_cases z : evl (wdF s hd (yB y hd) c m l) (sM s) = 1
          · rw [z]
            exact ⟨rfl, fin⟩
          · rcases evl_truth (fun k _ => eb k) hty with z2 | z2
            · rw [z2]
              exact ⟨rfl, fin⟩
            · exact absurd z2 z
      rw [q'] at key
      by_cases q3 : l = 12
      · rw [if_pos q3] at key
        simp (disch := omega) only [kd_88 F, kd_89 F, kd_90 F, kd_91 F, kd_92 F, kd_93 F, kd_94 F, kd_95 F, kd_96 F, kd_97 F, kd_98 F, kd_99 F, kd_100 F, kd_101 F, kd_102 F, kd_103 F, kd_104 F, kd_105 F, ln_89 F, ln_90 F, ln_91 F, ln_92 F, ln_93 F, ln_94 F, ln_95 F, ln_96 F, ln_97 F, ln_98 F, ln_99 F, ln_100 F, ln_101 F, ln_102 F, ln_103 F, ln_104 F, ln_105 F, rv_88_1 F, rv_88_2 F, rv_88_3 F, rv_88_4 F, rv_88_16 F, rv_88_17 F, rv_88_18 F, rv_88_21 F, rv_88_22 F, rv_88_23 F, rv_88_24 F, rv_88_25 F, rv_88_26 F, rv_88_27 F, rv_88_28 F, rv_88_29 F, rv_88_30 F, ix_lit, inB_lit, decide_true, Bool.true_or, Bool.or_true, true_and, and_true, kI_add, kI_sub, kI_mul, tn_add, Int.toNat_natCast, Int.reduceToNat, kI_le, kI_lt, kI_inj, decide_eq_true_eq, Bool.not_eq_true', decide_eq_false_iff_not, not_true_eq_false, not_false_eq_true, Classical.not_not, Bool.false_eq_true, if_true, if_false, z0, bI_k0, bI_k1, isB_b, isB_0, isB_1, kI_long, kd_stI, ln_stI, rv_stI, M_isIn_c, q', L1, if_true, if_false, iv_stI, C.ib, Nat.reduceEqDiff, false_and]
        rw [if_pos (by omega), if_neg (by omega)]
        exact key
      · rw [if_neg q3] at key
        simp (disch := omega) only [kd_88 F, kd_89 F, kd_90 F, kd_91 F, kd_92 F, kd_93 F, kd_94 F, kd_95 F, kd_96 F, kd_97 F, kd_98 F, kd_99 F, kd_100 F, kd_101 F, kd_102 F, kd_103 F, kd_104 F, kd_105 F, ln_89 F, ln_90 F, ln_91 F, ln_92 F, ln_93 F, ln_94 F, ln_95 F, ln_96 F, ln_97 F, ln_98 F, ln_99 F, ln_100 F, ln_101 F, ln_102 F, ln_103 F, ln_104 F, ln_105 F, rv_88_1 F, rv_88_2 F, rv_88_3 F, rv_88_4 F, rv_88_16 F, rv_88_17 F, rv_88_18 F, rv_88_21 F, rv_88_22 F, rv_88_23 F, rv_88_24 F, rv_88_25 F, rv_88_26 F, rv_88_27 F, rv_88_28 F, rv_88_29 F, rv_88_30 F, ix_lit, inB_lit, decide_true, Bool.true_or, Bool.or_true, true_and, and_true, kI_add, kI_sub, kI_mul, tn_add, Int.toNat_natCast, Int.reduceToNat, kI_le, kI_lt, kI_inj, decide_eq_true_eq, Bool.not_eq_true', decide_eq_false_iff_not, not_true_eq_false, not_false_eq_true, Classical.not_not, Bool.false_eq_true, if_true, if_false, z0, bI_k0, bI_k1, isB_b, isB_0, isB_1, kI_long, kd_stI, ln_stI, rv_stI, M_isIn_c, q', L1, if_true, if_false, iv_stI, C.ib, C.ik, Nat.reduceEqDiff, false_and]
        rw [if_pos (by omega), if_pos (by omega)]
        exact key

theorem M_oddsOf_g {s : ST} {y : DY} {h : AH} (C : MC s y h) {c : Nat} (hc : c < sN s) : GI 5 m_M_oddsOf [.ref 88, .int (kI c)] h (kI (oddF s c (yD y))) (Fr IM JM h) := by
  have F := C.fix
  have n2 := C.wf.n12
  have hm : yD y < 4096 := Nat.lt_of_lt_of_le C.wy.1 (Nat.pow_le_pow_right (n := 2) (by omega) n2)
  have L := C.lawO
  have L1 : ivA h 89 5 = kI (if sO s = [] then 0 else 1) := L.1
  refine GI_of (s_M_oddsOf_0 ?_)
  unfold oddF
  by_cases q : (yD y).testBit c = true
  · simp (disch := omega) only [kd_88 F, kd_89 F, kd_90 F, kd_91 F, kd_92 F, kd_93 F, kd_94 F, kd_95 F, kd_96 F, kd_97 F, kd_98 F, kd_99 F, kd_100 F, kd_101 F, kd_102 F, kd_103 F, kd_104 F, kd_105 F, ln_89 F, ln_90 F, ln_91 F, ln_92 F, ln_93 F, ln_94 F, ln_95 F, ln_96 F, ln_97 F, ln_98 F, ln_99 F, ln_100 F, ln_101 F, ln_102 F, ln_103 F, ln_104 F, ln_105 F, rv_88_1 F, rv_88_2 F, rv_88_3 F, rv_88_4 F, rv_88_16 F, rv_88_17 F, rv_88_18 F, rv_88_21 F, rv_88_22 F, rv_88_23 F, rv_88_24 F, rv_88_25 F, rv_88_26 F, rv_88_27 F, rv_88_28 F, rv_88_29 F, rv_88_30 F, ix_lit, inB_lit, decide_true, Bool.true_or, Bool.or_true, true_and, and_true, kI_add, kI_sub, kI_mul, tn_add, Int.toNat_natCast, Int.reduceToNat, kI_le, kI_lt, kI_inj, decide_eq_true_eq, Bool.not_eq_true', decide_eq_false_iff_not, not_true_eq_false, not_false_eq_true, Classical.not_not, Bool.false_eq_true, if_true, if_false, z0, bI_k0, bI_k1, isB_b, isB_0, isB_1, kI_long, kd_stI, ln_stI, rv_stI, C.i22, M_isIn_c, q]
    exact ⟨rfl, Fr_rfl _ _ _⟩
  · have q' : (yD y).testBit c = false := by simpa using q
    by_cases q2 : sO s = []
    · rw [if_pos q2] at L1
      simp (disch := omega) only [kd_88 F, kd_89 F, kd_90 F, kd_91 F, kd_92 F, kd_93 F, kd_94 F, kd_95 F, kd_96 F, kd_97 F, kd_98 F, kd_99 F, kd_100 F, kd_101 F, kd_102 F, kd_103 F, kd_104 F, kd_105 F, ln_89 F, ln_90 F, ln_91 F, ln_92 F, ln_93 F, ln_94 F, ln_95 F, ln_96 F, ln_97 F, ln_98 F, ln_99 F, ln_100 F, ln_101 F, ln_102 F, ln_103 F, ln_104 F, ln_105 F, rv_88_1 F, rv_88_2 F, rv_88_3 F, rv_88_4 F, rv_88_16 F, rv_88_17 F, rv_88_18 F, rv_88_21 F, rv_88_22 F, rv_88_23 F, rv_88_24 F, rv_88_25 F, rv_88_26 F, rv_88_27 F, rv_88_28 F, rv_88_29 F, rv_88_30 F, ix_lit, inB_lit, decide_true, Bool.true_or, Bool.or_true, true_and, and_true, kI_add, kI_sub, kI_mul, tn_add, Int.toNat_natCast, Int.reduceToNat, kI_le, kI_lt, kI_inj, decide_eq_true_eq, Bool.not_eq_true', decide_eq_false_iff_not, not_true_eq_false, not_false_eq_true, Classical.not_not, Bool.false_eq_true, if_true, if_false, z0, bI_k0, bI_k1, isB_b, isB_0, isB_1, kI_long, kd_stI, ln_stI, rv_stI, C.i22, M_isIn_c, q', L1, q2]
      refine s_M_oddsOf_43 ?_
      simp (disch := omega) only [ix_lit, inB_lit, decide_true, Bool.true_or, Bool.or_true, true_and, and_true, kI_add, kI_sub, kI_mul, tn_add, Int.toNat_natCast, Int.reduceToNat, kI_le, kI_lt, kI_inj, decide_eq_true_eq, Bool.not_eq_true', decide_eq_false_iff_not, not_true_eq_false, not_false_eq_true, Classical.not_not, Bool.false_eq_true, if_true, if_false, z0, bI_k0, bI_k1, isB_b, isB_0, isB_1, kI_long, kd_stI, ln_stI, rv_stI]
      exact ⟨rfl, Fr_rfl _ _ _⟩
    · rw [if_neg q2] at L1
      have hty : tyR (sO s) [] = some [false] := by
        rcases C.wf.2.2.2.2.2.2.2.2.2.1 with e | e
        · exact absurd e q2
        · exact e
      have hw := C.wf.2.2.2.2.2.2.2.2.2.2
      simp (disch := omega) only [kd_88 F, kd_89 F, kd_90 F, kd_91 F, kd_92 F, kd_93 F, kd_94 F, kd_95 F, kd_96 F, kd_97 F, kd_98 F, kd_99 F, kd_100 F, kd_101 F, kd_102 F, kd_103 F, kd_104 F, kd_105 F, ln_89 F, ln_90 F, ln_91 F, ln_92 F, ln_93 F, ln_94 F, ln_95 F, ln_96 F, ln_97 F, ln_98 F, ln_99 F, ln_100 F, ln_101 F, ln_102 F, ln_103 F, ln_104 F, ln_105 F, rv_88_1 F, rv_88_2 F, rv_88_3 F, rv_88_4 F, rv_88_16 F, rv_88_17 F, rv_88_18 F, rv_88_21 F, rv_88_22 F, rv_88_23 F, rv_88_24 F, rv_88_25 F, rv_88_26 F, rv_88_27 F, rv_88_28 F, rv_88_29 F, rv_88_30 F, ix_lit, inB_lit, decide_true, Bool.true_or, Bool.or_true, true_and, and_true, kI_add, kI_sub, kI_mul, tn_add, Int.toNat_natCast, Int.reduceToNat, kI_le, kI_lt, kI_inj, decide_eq_true_eq, Bool.not_eq_true', decide_eq_false_iff_not, not_true_eq_false, not_false_eq_true, Classical.not_not, Bool.false_eq_true, if_true, if_false, z0, bI_k0, bI_k1, isB_b, isB_0, isB_1, kI_long, kd_stI, ln_stI, rv_stI, C.i22, M_isIn_c, q', L1, q2]
      refine GI.use (M_reckons_g C (law := 1) (w := wdP s c (yD y)) (nw := 4) (Or.inr rfl) L q2 hty hc hm (fun k _ => rfl) (by omega) (fun k k4 k8 => by omega) (fun k _ => wdP_b C.wf hc k) (fun c h1 h2 h3 => by have := hw c h1; omega)) (by omega) (fun h5 e5 => ?_)
      have eb := evl_num (fun k _ => wdP_b C.wf (m := yD y) hc k) hty
      refine s_M_oddsOf_43 ?_
      simp (disch := omega) only [ix_lit, inB_lit, decide_true, Bool.true_or, Bool.or_true, true_and, and_true, kI_add, kI_sub, kI_mul, tn_add, Int.toNat_natCast, Int.reduceToNat, kI_le, kI_lt, kI_inj, decide_eq_true_eq, Bool.not_eq_true', decide_eq_false_iff_not, not_true_eq_false, not_false_eq_true, Classical.not_not, Bool.false_eq_true, if_true, if_false, z0, bI_k0, bI_k1, isB_b, isB_0, isB_1, kI_long, kd_stI, ln_stI, rv_stI]
      by_cases g1 : 0 ≤ evl (wdP s c (yD y)) (sO s)
      · rw [if_pos g1]
        by_cases g2 : evl (wdP s c (yD y)) (sO s) ≤ 999
        · rw [if_pos g2, Int.min_eq_right g2, Int.toNat_of_nonneg g1]
          exact ⟨rfl, e5⟩
        · rw [if_neg g2, Int.min_eq_left (by omega)]
          exact ⟨rfl, e5⟩
      · rw [if_neg g1, Int.min_eq_right (by omega), Int.toNat_of_nonpos (by omega)]
        exact ⟨rfl, e5⟩
