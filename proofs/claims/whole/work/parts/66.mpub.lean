/-! the reference's stroke, rub, habit, hide, undo -/
/-- cells of the reference that deeds change -/
def IMd (a k : Nat) : Prop := IM a k ∨ (a = 89 ∧ 22 ≤ k ∧ k ≤ 99) ∨ a = 95 ∨ (a = 88 ∧ (k = 19 ∨ k = 20))
theorem IM.d {a k : Nat} (w : IM a k) : IMd a k := Or.inl w
theorem ID.d {a k : Nat} (w : ID a k) : IMd a k := by
  rcases w with w | w
  · exact Or.inl w
  · exact Or.inr (Or.inl (by omega))
theorem BM.scr {s : ST} {y : DY} {hs : List DY} {h h' : AH} {I J : Nat → Nat → Prop} (B : BM s y hs h) (e : Fr I J h h') (hi : ∀ k, k < 1001 → ¬ I 89 k) : BM s y hs h' := by
  refine ⟨⟨e.fix B.M.1, B.M.2.1, B.M.2.2.1, MSt_ext2 B.M.2.2.2.1 (fun k hk => e.2.2.2.2.2.1 89 k (hi k (by omega))), ?_⟩, B.H.fr e (fun k _ h2 => hi k (by omega)), B.wh⟩
  have D := B.M.2.2.2.2
  refine ⟨?_, ?_, ?_, fun k hk => ?_⟩
  · rw [e.2.2.2.2.2.1 89 _ (hi _ (by omega))]; exact D.1
  · rw [e.2.2.2.2.2.1 89 _ (hi _ (by omega))]; exact D.2.1
  · rw [e.2.2.2.2.2.1 89 _ (hi _ (by omega))]; exact D.2.2.1
  · rw [e.2.2.2.2.2.1 89 _ (hi _ (by omega))]; exact D.2.2.2 k hk
theorem nIM89 (k : Nat) : ¬ IM 89 k := nIM (by omega) (by omega) (by omega)
theorem BM.im {s : ST} {y : DY} {hs : List DY} {h h' : AH} (B : BM s y hs h) (e : Fr IM JM h h') : BM s y hs h' := B.scr e (fun k _ => nIM89 k)
theorem f88 (h : AH) : Fr IM JM h (stI h 88 0 (kI 0)) := (Fr_rfl _ _ _).stI (Or.inr (Or.inr ⟨rfl, rfl⟩)) _
theorem M_leftNow_c {s : ST} {y : DY} {d : Nat} {h : AH} (C : MC s y h) (hd : 2 ≤ d) {K : Int32 → AH → Prop} : CallI d m_M_leftNow [.ref 88] h K ↔ K (kI ((sN s : Int) - pop (yD y))) h := by
  refine Ret.I (d := 2) (ret_of (s_M_leftNow_0 ?_)) hd
  have F := C.fix
  have hm := C.wy.m12 C.wf
  simp (disch := omega) only [kd_88 F, rv_88_1 F, kd_89 F, ln_89 F, ix_lit, inB_lit, decide_true, Bool.true_or, Bool.or_true, true_and, and_true, kI_add, kI_sub, kI_mul, tn_add, Int.toNat_natCast, Int.reduceToNat, kI_le, kI_lt, kI_inj, decide_eq_true_eq, Bool.not_eq_true', decide_eq_false_iff_not, not_true_eq_false, not_false_eq_true, Classical.not_not, Bool.false_eq_true, if_true, if_false, z0, bI_k0, bI_k1, isB_b, isB_0, isB_1, kI_long, kd_stI, ln_stI, rv_stI, M_cells_c C, C.i22, M_bits_c]
def OutM (s : ST) (y y' : DY) (hs : List DY) (why : Nat) (h h' : AH) : Prop := Fr IMd JM h h' ∧ BM s (if why = 0 then y' else y) (if why = 0 then (y :: hs).take 10 else hs) h'
/-- keeps, a change, notes -/
theorem M_kept {s : ST} {y y' : DY} {hs : List DY} {h h1 h2 : AH} (B : BM s y hs h) (e1 : Fr (fun a _ => a = 95) JM h h1) (W : ∀ k, k < 7 → ivA h1 95 k = dv y k) (P : PostM s y' h1 h2) {d : Nat} (hd : 1 ≤ d) {K : AH → Prop} (H : ∀ h3, Fr IMd JM h h3 → BM s y' ((y :: hs).take 10) h3 → (∀ k, k < 7 → ivA h3 95 k = dv y k) → K h3) : CallV d m_M_notes [.ref 88] h2 K := by
  have W2 : ∀ k, k < 7 → ivA h2 95 k = dv y k := fun k hk => by
    rw [P.1.2.2.2.2.2.1 _ _ (by unfold ID IM; omega)]
    exact W k hk
  have H1 : MH hs h2 := (B.H.fr e1 (fun k _ _ => by omega)).fr P.1 (fun k _ _ => by unfold ID IM; omega)
  refine GV.use (M_notes_g P.2.fix H1 W2) hd (fun h3 e3 => ?_)
  refine H h3 ?_ ?_ ?_
  · refine (e1.mono (fun a k w => Or.inr (Or.inr (Or.inl w))) (fun _ _ w => w)).trans ((P.1.mono (fun a k w => w.d) (fun _ _ w => w)).trans (e3.1.mono (fun a k w => Or.inr (Or.inl (by omega))) (fun _ _ w => w)))
  · refine ⟨P.2.to e3.1 (fun k hk => by omega) P.2.wy ?_, e3.2, wh_take B.M.wy B.wh⟩
    have D := P.2.2.2.2.2
    refine ⟨?_, ?_, ?_, fun k hk => ?_⟩
    · rw [e3.1.2.2.2.2.2.1 89 _ (by omega)]; exact D.1
    · rw [e3.1.2.2.2.2.2.1 89 _ (by omega)]; exact D.2.1
    · rw [e3.1.2.2.2.2.2.1 89 _ (by omega)]; exact D.2.2.1
    · rw [e3.1.2.2.2.2.2.1 89 _ (by omega)]; exact D.2.2.2 k hk
  · intro k hk
    rw [e3.1.2.2.2.2.2.1 _ _ (by omega)]
    exact W2 k hk
theorem M_stroke_g {s : ST} {y : DY} {hs : List DY} {h : AH} (B : BM s y hs h) {a c : Int} (a1 : -2147483648 ≤ a) (a2 : a ≤ 2147483647) (c1 : -2147483648 ≤ c) (c2 : c ≤ 2147483647) : GI 8 m_M_stroke [.ref 88, .int (kI a), .int (kI c)] h (kI (ansD s (whyS s y a c) (dDraw y c.toNat))) (OutM s y (dDraw y c.toNat) hs (whyS s y a c) h) := by
  have F := B.M.fix
  have wl := whyS_le s y a c
  have B0 := B.im (f88 h)
  have F0 := B0.M.fix
  refine GIo (s_M_stroke_0 ?_)
  simp (disch := omega) only [kd_88 F, kd_88 F0, decide_true, true_and, kI_long]
  refine GI.use (M_whyStroke_g B0.M a1 a2 c1 c2) (by omega) (fun h1 e1 => ?_)
  have f1 := (f88 h).trans e1
  have B1 := B.im f1
  have F1 := B1.M.fix
  have g1 : Fr IMd JM h h1 := f1.mono (fun a k w => w.d) (fun _ _ w => w)
  unfold OutM ansD
  by_cases q : whyS s y a c = 0
  · have z := whyS_0 q
    obtain ⟨c, rfl⟩ := Int.eq_ofNat_of_zero_le z.2.1
    simp only [if_pos q]
    simp (disch := omega) only [ix_lit, inB_lit, decide_true, Bool.true_or, Bool.or_true, true_and, and_true, kI_add, kI_sub, kI_mul, tn_add, Int.toNat_natCast, Int.reduceToNat, kI_le, kI_lt, kI_inj, decide_eq_true_eq, Bool.not_eq_true', decide_eq_false_iff_not, not_true_eq_false, not_false_eq_true, Classical.not_not, Bool.false_eq_true, if_true, if_false, z0, bI_k0, bI_k1, isB_b, isB_0, isB_1, kI_long, kd_stI, ln_stI, rv_stI, kd_88 F1]
    rw [if_pos (by omega)]
    refine GV.use (M_keeps_g B1.M) (by omega) (fun h2 e2 => ?_)
    have B2 := B1.scr e2.1 (fun k _ => by omega)
    refine ⟨kd_88 B2.M.fix ▸ rfl, ?_⟩
    refine GV.use (M_draws_g B2.M (c := c) (by omega)) (by omega) (fun h3 e3 => ?_)
    refine ⟨kd_88 e3.2.fix ▸ rfl, ?_⟩
    refine M_kept B1 e2.1 e2.2 e3 (by omega) (fun h4 e4 B4 _ => ?_)
    simp (disch := omega) only [kd_88 B4.M.fix, decide_true, true_and, M_leftNow_c B4.M]
    exact ⟨rfl, g1.trans e4, B4⟩
  · simp only [if_neg q]
    simp (disch := omega) only [ix_lit, inB_lit, decide_true, Bool.true_or, Bool.or_true, true_and, and_true, kI_add, kI_sub, kI_mul, tn_add, Int.toNat_natCast, Int.reduceToNat, kI_le, kI_lt, kI_inj, decide_eq_true_eq, Bool.not_eq_true', decide_eq_false_iff_not, not_true_eq_false, not_false_eq_true, Classical.not_not, Bool.false_eq_true, if_true, if_false, z0, bI_k0, bI_k1, isB_b, isB_0, isB_1, kI_long, kd_stI, ln_stI, rv_stI, kd_88 F1]
    rw [if_neg (by omega)]
    exact ⟨rfl, g1, B1⟩
theorem M_rub_g {s : ST} {y : DY} {hs : List DY} {h : AH} (B : BM s y hs h) {c : Int} (c1 : -2147483648 ≤ c) (c2 : c ≤ 2147483647) : GI 8 m_M_rub [.ref 88, .int (kI c)] h (kI (ansD s (whyR s y c) (dRub y c.toNat))) (OutM s y (dRub y c.toNat) hs (whyR s y c) h) := by
  have F := B.M.fix
  have wl := whyR_le s y c
  have B0 := B.im (f88 h)
  have F0 := B0.M.fix
  have g1 : Fr IMd JM h (stI h 88 0 (kI 0)) := (f88 h).mono (fun a k w => w.d) (fun _ _ w => w)
  refine GIo (s_M_rub_0 ?_)
  unfold OutM ansD
  by_cases q : whyR s y c = 0
  · have z := whyR_0 q
    obtain ⟨c, rfl⟩ := Int.eq_ofNat_of_zero_le z.1
    simp only [if_pos q]
    simp (disch := omega) only [kd_88 F, kd_88 F0, ix_lit, inB_lit, decide_true, Bool.true_or, Bool.or_true, true_and, and_true, kI_add, kI_sub, kI_mul, tn_add, Int.toNat_natCast, Int.reduceToNat, kI_le, kI_lt, kI_inj, decide_eq_true_eq, Bool.not_eq_true', decide_eq_false_iff_not, not_true_eq_false, not_false_eq_true, Classical.not_not, Bool.false_eq_true, if_true, if_false, z0, bI_k0, bI_k1, isB_b, isB_0, isB_1, kI_long, kd_stI, ln_stI, rv_stI, M_whyRub_c B0.M]
    rw [if_pos (by omega)]
    refine GV.use (M_keeps_g B0.M) (by omega) (fun h2 e2 => ?_)
    have B2 := B0.scr e2.1 (fun k _ => by omega)
    refine ⟨kd_88 B2.M.fix ▸ rfl, ?_⟩
    refine GV.use (M_rubs_g B2.M (c := c) (by omega)) (by omega) (fun h3 e3 => ?_)
    refine ⟨kd_88 e3.2.fix ▸ rfl, ?_⟩
    refine M_kept B0 e2.1 e2.2 e3 (by omega) (fun h4 e4 B4 _ => ?_)
    simp (disch := omega) only [kd_88 B4.M.fix, decide_true, true_and, M_leftNow_c B4.M]
    exact ⟨rfl, g1.trans e4, B4⟩
  · simp only [if_neg q]
    simp (disch := omega) only [kd_88 F, kd_88 F0, ix_lit, inB_lit, decide_true, Bool.true_or, Bool.or_true, true_and, and_true, kI_add, kI_sub, kI_mul, tn_add, Int.toNat_natCast, Int.reduceToNat, kI_le, kI_lt, kI_inj, decide_eq_true_eq, Bool.not_eq_true', decide_eq_false_iff_not, not_true_eq_false, not_false_eq_true, Classical.not_not, Bool.false_eq_true, if_true, if_false, z0, bI_k0, bI_k1, isB_b, isB_0, isB_1, kI_long, kd_stI, ln_stI, rv_stI, M_whyRub_c B0.M]
    rw [if_neg (by omega)]
    exact ⟨rfl, g1, B0⟩
theorem M_hide_g {s : ST} {y : DY} {hs : List DY} {h : AH} (B : BM s y hs h) {c : Int} (c1 : -2147483648 ≤ c) (c2 : c ≤ 2147483647) : GI 8 m_M_hide [.ref 88, .int (kI c)] h (kI (if whyH s y c = 0 then yX y else -10 - (whyH s y c : Int))) (OutM s y (dHide y c.toNat) hs (whyH s y c) h) := by
  have F := B.M.fix
  have wl := whyH_le s y c
  have B0 := B.im (f88 h)
  have F0 := B0.M.fix
  have g1 : Fr IMd JM h (stI h 88 0 (kI 0)) := (f88 h).mono (fun a k w => w.d) (fun _ _ w => w)
  refine GIo (s_M_hide_0 ?_)
  unfold OutM
  by_cases q : whyH s y c = 0
  · have z := whyH_0 q
    obtain ⟨c, rfl⟩ := Int.eq_ofNat_of_zero_le z.1
    simp only [if_pos q]
    simp (disch := omega) only [kd_88 F, kd_88 F0, ix_lit, inB_lit, decide_true, Bool.true_or, Bool.or_true, true_and, and_true, kI_add, kI_sub, kI_mul, tn_add, Int.toNat_natCast, Int.reduceToNat, kI_le, kI_lt, kI_inj, decide_eq_true_eq, Bool.not_eq_true', decide_eq_false_iff_not, not_true_eq_false, not_false_eq_true, Classical.not_not, Bool.false_eq_true, if_true, if_false, z0, bI_k0, bI_k1, isB_b, isB_0, isB_1, kI_long, kd_stI, ln_stI, rv_stI, M_whyHide_c B0.M]
    rw [if_pos (by omega)]
    refine GV.use (M_keeps_g B0.M) (by omega) (fun h2 e2 => ?_)
    have B2 := B0.scr e2.1 (fun k _ => by omega)
    have F2 := B2.M.fix
    simp (disch := omega) only [kd_88 F2, rv_88_1 F2, kd_89 F2, ln_89 F2, ix_lit, inB_lit, decide_true, Bool.true_or, Bool.or_true, true_and, and_true, kI_add, kI_sub, kI_mul, tn_add, Int.toNat_natCast, Int.reduceToNat, kI_le, kI_lt, kI_inj, decide_eq_true_eq, Bool.not_eq_true', decide_eq_false_iff_not, not_true_eq_false, not_false_eq_true, Classical.not_not, Bool.false_eq_true, if_true, if_false, z0, bI_k0, bI_k1, isB_b, isB_0, isB_1, kI_long, kd_stI, ln_stI, rv_stI]
    refine M_kept B0 e2.1 e2.2 (st_X B2.M (c := c) (by omega)) (by omega) (fun h4 e4 B4 W4 => ?_)
    have F4 := B4.M.fix
    have w2 : ivA h4 95 2 = kI (yX y) := W4 2 (by omega)
    simp (disch := omega) only [kd_88 F4, rv_88_18 F4, kd_95 F4, ln_95 F4, ix_lit, inB_lit, decide_true, Bool.true_or, Bool.or_true, true_and, and_true, kI_add, kI_sub, kI_mul, tn_add, Int.toNat_natCast, Int.reduceToNat, kI_le, kI_lt, kI_inj, decide_eq_true_eq, Bool.not_eq_true', decide_eq_false_iff_not, not_true_eq_false, not_false_eq_true, Classical.not_not, Bool.false_eq_true, if_true, if_false, z0, bI_k0, bI_k1, isB_b, isB_0, isB_1, kI_long, kd_stI, ln_stI, rv_stI, w2]
    exact ⟨rfl, g1.trans e4, B4⟩
  · simp only [if_neg q]
    simp (disch := omega) only [kd_88 F, kd_88 F0, ix_lit, inB_lit, decide_true, Bool.true_or, Bool.or_true, true_and, and_true, kI_add, kI_sub, kI_mul, tn_add, Int.toNat_natCast, Int.reduceToNat, kI_le, kI_lt, kI_inj, decide_eq_true_eq, Bool.not_eq_true', decide_eq_false_iff_not, not_true_eq_false, not_false_eq_true, Classical.not_not, Bool.false_eq_true, if_true, if_false, z0, bI_k0, bI_k1, isB_b, isB_0, isB_1, kI_long, kd_stI, ln_stI, rv_stI, M_whyHide_c B0.M]
    rw [if_neg (by omega)]
    exact ⟨rfl, g1, B0⟩
theorem M_habit_g {s : ST} {y : DY} {hs : List DY} {h : AH} (B : BM s y hs h) {a n : Int} (a1 : -2147483648 ≤ a) (a2 : a ≤ 2147483647) (c1 : -2147483648 ≤ n) (c2 : n ≤ 2147483647) : GI 8 m_M_habit [.ref 88, .int (kI a), .int (kI n)] h (kI (if whyB s a n = 0 then (yB y a.toNat : Int) else -11)) (OutM s y (dHab y a.toNat n.toNat) hs (whyB s a n) h) := by
  have F := B.M.fix
  have h4 := B.M.wf.2.2.2.2.2.1
  have B0 := B.im (f88 h)
  have F0 := B0.M.fix
  have g1 : Fr IMd JM h (stI h 88 0 (kI 0)) := (f88 h).mono (fun a k w => w.d) (fun _ _ w => w)
  refine GIo (s_M_habit_0 ?_)
  unfold OutM
  by_cases q : whyB s a n = 0
  · have z := whyB_0 q
    obtain ⟨a, rfl⟩ := Int.eq_ofNat_of_zero_le z.1.1
    obtain ⟨n, rfl⟩ := Int.eq_ofNat_of_zero_le z.2.1
    have z1 := z.1
    have z2 : (0 : Int) ≤ (n : Int) ∧ (n : Int) ≤ 9 := by omega
    simp only [if_pos q]
    simp (disch := omega) only [kd_88 F, kd_88 F0, ix_lit, inB_lit, decide_true, Bool.true_or, Bool.or_true, true_and, and_true, kI_add, kI_sub, kI_mul, tn_add, Int.toNat_natCast, Int.reduceToNat, kI_le, kI_lt, kI_inj, decide_eq_true_eq, Bool.not_eq_true', decide_eq_false_iff_not, not_true_eq_false, not_false_eq_true, Classical.not_not, Bool.false_eq_true, if_true, if_false, z0, bI_k0, bI_k1, isB_b, isB_0, isB_1, kI_long, kd_stI, ln_stI, rv_stI, M_isHand_c B0.M, M_within_c, z1, z2]
    refine GV.use (M_keeps_g B0.M) (by omega) (fun h2 e2 => ?_)
    have B2 := B0.scr e2.1 (fun k _ => by omega)
    have F2 := B2.M.fix
    simp (disch := omega) only [kd_88 F2, rv_88_1 F2, kd_89 F2, ln_89 F2, ix_lit, inB_lit, decide_true, Bool.true_or, Bool.or_true, true_and, and_true, kI_add, kI_sub, kI_mul, tn_add, Int.toNat_natCast, Int.reduceToNat, kI_le, kI_lt, kI_inj, decide_eq_true_eq, Bool.not_eq_true', decide_eq_false_iff_not, not_true_eq_false, not_false_eq_true, Classical.not_not, Bool.false_eq_true, if_true, if_false, z0, bI_k0, bI_k1, isB_b, isB_0, isB_1, kI_long, kd_stI, ln_stI, rv_stI]
    refine M_kept B0 e2.1 e2.2 (st_B B2.M (a := a) (n := n) (by omega) (by omega)) (by omega) (fun h4 e4 B4 W4 => ?_)
    have F4 := B4.M.fix
    have w2 : ivA h4 95 (3 + a) = kI (yB y a) := by
      rw [W4 (3 + a) (by omega)]
      unfold dv
      rw [if_neg (by omega), if_neg (by omega), if_neg (by omega)]
      congr 3
      omega
    simp (disch := omega) only [kd_88 F4, rv_88_18 F4, kd_95 F4, ln_95 F4, ix_lit, inB_lit, decide_true, Bool.true_or, Bool.or_true, true_and, and_true, kI_add, kI_sub, kI_mul, tn_add, Int.toNat_natCast, Int.reduceToNat, kI_le, kI_lt, kI_inj, decide_eq_true_eq, Bool.not_eq_true', decide_eq_false_iff_not, not_true_eq_false, not_false_eq_true, Classical.not_not, Bool.false_eq_true, if_true, if_false, z0, bI_k0, bI_k1, isB_b, isB_0, isB_1, kI_long, kd_stI, ln_stI, rv_stI, w2]
    exact ⟨rfl, g1.trans e4, B4⟩
  · simp only [if_neg q]
    by_cases q1 : 0 ≤ a ∧ a < sH s
    · have q2 : ¬ (0 ≤ n ∧ n ≤ 9) := fun w => q (by unfold whyB; rw [if_pos ⟨q1, by omega⟩])
      simp (disch := omega) only [kd_88 F, kd_88 F0, ix_lit, inB_lit, decide_true, Bool.true_or, Bool.or_true, true_and, and_true, kI_add, kI_sub, kI_mul, tn_add, Int.toNat_natCast, Int.reduceToNat, kI_le, kI_lt, kI_inj, decide_eq_true_eq, Bool.not_eq_true', decide_eq_false_iff_not, not_true_eq_false, not_false_eq_true, Classical.not_not, Bool.false_eq_true, if_true, if_false, z0, bI_k0, bI_k1, isB_b, isB_0, isB_1, kI_long, kd_stI, ln_stI, rv_stI, M_isHand_c B0.M, M_within_c, q1, q2]
      exact ⟨rfl, g1, B0⟩
    · simp (disch := omega) only [kd_88 F, kd_88 F0, ix_lit, inB_lit, decide_true, Bool.true_or, Bool.or_true, true_and, and_true, kI_add, kI_sub, kI_mul, tn_add, Int.toNat_natCast, Int.reduceToNat, kI_le, kI_lt, kI_inj, decide_eq_true_eq, Bool.not_eq_true', decide_eq_false_iff_not, not_true_eq_false, not_false_eq_true, Classical.not_not, Bool.false_eq_true, if_true, if_false, z0, bI_k0, bI_k1, isB_b, isB_0, isB_1, kI_long, kd_stI, ln_stI, rv_stI, M_isHand_c B0.M, q1]
      exact ⟨rfl, g1, B0⟩
theorem M_undo_g {s : ST} {y : DY} {hs : List DY} {h : AH} (B : BM s y hs h) {n : Int} (a1 : -2147483648 ≤ n) (a2 : n ≤ 2147483647) : GI 3 m_M_undo [.ref 88, .int (kI n)] h (kI (if 1 ≤ n ∧ n ≤ hs.length then (hs.length : Int) - n else -3)) (fun h' => Fr IMd JM h h' ∧ BM s (if 1 ≤ n ∧ n ≤ hs.length then hs.getD (n.toNat - 1) y0 else y) (if 1 ≤ n ∧ n ≤ hs.length then hs.drop n.toNat else hs) h') := by
  have F := B.M.fix
  have l10 := B.H.len
  have B0 := B.im (f88 h)
  have F0 := B0.M.fix
  have g1 : Fr IMd JM h (stI h 88 0 (kI 0)) := (f88 h).mono (fun a k w => w.d) (fun _ _ w => w)
  refine GIo (s_M_undo_0 ?_)
  by_cases q : 1 ≤ n ∧ n ≤ hs.length
  · simp only [if_pos q]
    obtain ⟨n, rfl⟩ := Int.eq_ofNat_of_zero_le (show 0 ≤ n by omega)
    have q1 : (1 : Int) ≤ (n : Int) ∧ (n : Int) ≤ 10 := by omega
    have i29 := B0.H.i29
    simp (disch := omega) only [kd_88 F, kd_88 F0, rv_88_1 F0, kd_89 F0, ln_89 F0, ix_lit, inB_lit, decide_true, Bool.true_or, Bool.or_true, true_and, and_true, kI_add, kI_sub, kI_mul, tn_add, Int.toNat_natCast, Int.reduceToNat, kI_le, kI_lt, kI_inj, decide_eq_true_eq, Bool.not_eq_true', decide_eq_false_iff_not, not_true_eq_false, not_false_eq_true, Classical.not_not, Bool.false_eq_true, if_true, if_false, z0, bI_k0, bI_k1, isB_b, isB_0, isB_1, kI_long, kd_stI, ln_stI, rv_stI, M_within_c, q1, i29]
    rw [if_pos (by omega)]
    have wn := B.wh (n - 1) (by omega)
    generalize hz : stI (stI h 88 0 (kI 0)) 89 29 (kI ((hs.length : Int) - n)) = h1
    have e1 : Fr (fun a k => a = 89 ∧ k = 29) JM (stI h 88 0 (kI 0)) h1 := by rw [← hz]; exact (Fr_rfl _ _ _).stI ⟨rfl, rfl⟩ _
    have j29 : ivA h1 89 29 = kI ((hs.length : Int) - n) := by rw [← hz, iv_stI, if_pos ⟨rfl, rfl⟩]
    have src : ∀ k, k < 7 → ivA h1 89 (30 + 7 * (hs.length - n) + k) = dv (hs.getD (n - 1) y0) k := fun k hk => by
      rw [e1.2.2.2.2.2.1 _ _ (by omega), ← B0.H.e (n - 1) (by omega) k hk]
      congr 1
      omega
    suffices H : ∀ k, k ≤ 7 → ∀ h2, Fr (fun a k => a = 89 ∧ 22 ≤ k ∧ k ≤ 28) JM h1 h2 → (∀ j, j < k → ivA h2 89 (22 + j) = dv (hs.getD (n - 1) y0) j) → Safe 2 m_M_undo (44, [.ref 88, unV, .int (kI k)], [], h2) (fun v h' => Eqv v (some (.int (kI ((hs.length : Int) - n)))) ∧ Fr IMd JM h h' ∧ BM s (hs.getD (n - 1) y0) (hs.drop n) h') by
      exact H 0 (by omega) h1 (Fr_rfl _ _ _) (fun j hj => by omega)
    refine down_ind 7 ?_ ?_
    · intro h2 e2 H
      have F2 := e2.fix (e1.fix F0)
      have k29 : ivA h2 89 29 = kI ((hs.length : Int) - n) := by rw [e2.2.2.2.2.2.1 _ _ (by omega)]; exact j29
      refine s_M_undo_44 ?_
      simp (disch := omega) only [kd_88 F2, rv_88_1 F2, kd_89 F2, ln_89 F2, ix_lit, inB_lit, decide_true, Bool.true_or, Bool.or_true, true_and, and_true, kI_add, kI_sub, kI_mul, tn_add, Int.toNat_natCast, Int.reduceToNat, kI_le, kI_lt, kI_inj, decide_eq_true_eq, Bool.not_eq_true', decide_eq_false_iff_not, not_true_eq_false, not_false_eq_true, Classical.not_not, Bool.false_eq_true, if_true, if_false, z0, bI_k0, bI_k1, isB_b, isB_0, isB_1, kI_long, kd_stI, ln_stI, rv_stI, Int.cast_ofNat_Int, Int.le_refl, k29]
      have ee : Fr (fun a k => a = 89 ∧ 22 ≤ k ∧ k ≤ 29) JM (stI h 88 0 (kI 0)) h2 := (e1.mono (fun a k w => by omega) (fun _ _ w => w)).trans (e2.mono (fun a k w => by omega) (fun _ _ w => w))
      refine ⟨rfl, g1.trans (ee.mono (fun a k w => Or.inr (Or.inl (by omega))) (fun _ _ w => w)), ⟨B0.M.to ee (fun k hk => by omega) wn (MDy_dv.mpr (fun k hk => by rw [Nat.zero_add]; exact H k hk)), ⟨by simp; omega, ?_, fun i hi k hk => ?_⟩, fun i hi => ?_⟩⟩
      · rw [k29, List.length_drop]
        congr 1
        omega
      · rw [List.length_drop] at hi ⊢
        rw [getD_drop, ee.2.2.2.2.2.1 _ _ (by omega), ← B0.H.e (n + i) (by omega) k hk]
        congr 1
        omega
      · rw [List.length_drop] at hi
        rw [getD_drop]
        exact B.wh _ (by omega)
    · intro k hk ih h2 e2 H
      have F2 := e2.fix (e1.fix F0)
      have k29 : ivA h2 89 29 = kI ((hs.length : Int) - n) := by rw [e2.2.2.2.2.2.1 _ _ (by omega)]; exact j29
      have ei : (30 + 7 * ((hs.length : Int) - n) + (k : Int)).toNat = 30 + 7 * (hs.length - n) + k := by omega
      have es : ivA h2 89 (30 + 7 * (hs.length - n) + k) = dv (hs.getD (n - 1) y0) k := by rw [e2.2.2.2.2.2.1 _ _ (by omega)]; exact src k hk
      have et : (22 + (k : Int)).toNat = 22 + k := by omega
      refine s_M_undo_44 ?_
      simp (disch := omega) only [kd_88 F2, rv_88_1 F2, kd_89 F2, ln_89 F2, ix_lit, inB_lit, decide_true, Bool.true_or, true_and, kI_add, kI_mul, kI_le, decide_eq_true_eq, Int.toNat_natCast, Int.reduceToNat, k29, ei, et, es]
      rw [if_neg (by omega)]
      refine ih (stI h2 89 (22 + k) _) (e2.stI (by omega) _) (fun j hj => ?_)
      rw [iv_stI]
      by_cases z : j = k
      · rw [if_pos (by omega), z]
      · rw [if_neg (by omega)]
        exact H j (by omega)
  · simp only [if_neg q]
    by_cases q1 : 1 ≤ n ∧ n ≤ 10
    · have i29 := B0.H.i29
      simp (disch := omega) only [kd_88 F, kd_88 F0, rv_88_1 F0, kd_89 F0, ln_89 F0, ix_lit, inB_lit, decide_true, Bool.true_or, Bool.or_true, true_and, and_true, kI_add, kI_sub, kI_mul, tn_add, Int.toNat_natCast, Int.reduceToNat, kI_le, kI_lt, kI_inj, decide_eq_true_eq, Bool.not_eq_true', decide_eq_false_iff_not, not_true_eq_false, not_false_eq_true, Classical.not_not, Bool.false_eq_true, if_true, if_false, z0, bI_k0, bI_k1, isB_b, isB_0, isB_1, kI_long, kd_stI, ln_stI, rv_stI, M_within_c, q1, i29]
      rw [if_neg (by omega)]
      exact ⟨rfl, g1, B0⟩
    · simp (disch := omega) only [kd_88 F, ix_lit, inB_lit, decide_true, Bool.true_or, Bool.or_true, true_and, and_true, kI_add, kI_sub, kI_mul, tn_add, Int.toNat_natCast, Int.reduceToNat, kI_le, kI_lt, kI_inj, decide_eq_true_eq, Bool.not_eq_true', decide_eq_false_iff_not, not_true_eq_false, not_false_eq_true, Classical.not_not, Bool.false_eq_true, if_true, if_false, z0, bI_k0, bI_k1, isB_b, isB_0, isB_1, kI_long, kd_stI, ln_stI, rv_stI, M_within_c, q1]
      exact ⟨rfl, g1, B0⟩
