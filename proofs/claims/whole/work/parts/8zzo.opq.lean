/-! queries, on both sides -/
abbrev FJd (T : Nat → Nat) (h h' : AH) : Prop := Fr (fun a _ => T a = 1 ∨ a = 12 ∨ a = 13) JM h h'
theorem X_judge_g2 {T : Nat → Nat} {s : ST} {p : Nat} {y : DY} {v : Int} {hs : List DY} {nx : Nat} {h : AH} (B : BX T s p y v hs nx h) {w : TW} (X : XTs w h) (W : WTs w) {t c : Int} (t1 : -2147483648 ≤ t) (t2 : t ≤ 2147483647) (c1 : -2147483648 ≤ c) (c2 : c ≤ 2147483647) : GI 9 m_X_judge [.ref 1, .int (kI t), .int (kI c)] h (kI (if (0 ≤ t ∧ t < 4) ∧ (0 ≤ c ∧ c ≤ 3) then judA s y (w.1 t.toNat) (w.2.1 t.toNat) (w.2.2 t.toNat) c else -2)) (FJd T h) := by
  have F := B.F
  refine GIo (s_X_judge_0 ?_)
  by_cases q : 0 ≤ t ∧ t < 4
  · by_cases q2 : 0 ≤ c ∧ c ≤ 3
    · rw [if_pos ⟨q, q2⟩]
      have p1 : (0 ≤ t ∧ t < 4) = True := eq_true q
      obtain ⟨t, rfl⟩ := Int.eq_ofNat_of_zero_le q.1
      have ht : t < 4 := by omega
      have Tf := tr_fix F ht
      have Xt := X t ht
      have Wt := W t ht
      have z1 : ¬ c < 0 := by omega
      have z2 : c ≤ 3 := q2.2
      simp (disch := omega) only [kd_1 F, rv_1_11 F, kd_73 F, ln_73 F, Tf.1, Tf.2.1, ix_lit, inB_lit, decide_true, Bool.true_or, Bool.or_true, true_and, and_true, kI_add, kI_sub, kI_mul, tn_add, Int.toNat_natCast, Int.reduceToNat, kI_le, kI_lt, kI_inj, decide_eq_true_eq, Bool.not_eq_true', decide_eq_false_iff_not, not_true_eq_false, not_false_eq_true, Classical.not_not, Bool.false_eq_true, if_true, if_false, z0, bI_k0, bI_k1, isB_b, isB_0, isB_1, kI_long, kd_stI, ln_stI, rv_stI, X_isTray_c, p1, z1, z2, Nat.reduceLeDiff, Tr_isMissing_c ht F Wt Xt, rv_1_5 F, rv_1_3 F, kd_12 F]
      unfold judA
      by_cases q3 : w.1 t = -1
      · rw [if_neg (fun w => w q3), if_pos q3]
        exact ⟨rfl, Fr_rfl _ _ _⟩
      · rw [if_pos q3, if_neg q3]
        refine GV.use (Pg_copy_g F PG12 PG8 (by omega) B.P (kI_of _)) (by omega) (fun h1 e1 => ?_)
        have n40 := Wt.2.2.1
        have fin : ∀ (k why : Nat) (y' : DY) (v' : Int) (h3 : AH), Fr (fun a _ => T a = 1 ∨ a = 12 ∨ a = 13) JM h h3 → XP y' v' 12 h3 → WFY s y' → tlF s (w.2.2 t) (w.2.1 t) 0 y = (k, y', why) → why ≤ 3 → Safe 8 m_X_judge (108, [.ref 1, unV, .int (kI c), unV, .int (kI (if why = 0 then -1 else (k : Int))), .int (kI why), unV], [], h3) (fun x h' => Eqv x (some (.int (kI (if c = 0 then (if (tlF s (w.2.2 t) (w.2.1 t) 0 y).2.2 = 0 then -1 else ((tlF s (w.2.2 t) (w.2.1 t) 0 y).1 : Int)) else if c = 1 then ((tlF s (w.2.2 t) (w.2.1 t) 0 y).2.2 : Int) else if c = 2 then (yD (tlF s (w.2.2 t) (w.2.1 t) 0 y).2.1 : Int) else (if foundF (tlF s (w.2.2 t) (w.2.1 t) 0 y).2.1 = true then 1 else 0))))) ∧ FJd T h h') := by
          intro k why y' v' h3 e3 P3 wy' et wl
          have F3 := e3.fix F
          have f3 : FJd T h h3 := e3
          rw [et]
          refine s_X_judge_108 ?_
          have e : c = 0 ∨ c = 1 ∨ c = 2 ∨ c = 3 := by omega
          rcases e with rfl | rfl | rfl | rfl
          · simp (disch := omega) only [ix_lit, inB_lit, decide_true, Bool.true_or, Bool.or_true, true_and, and_true, kI_add, kI_sub, kI_mul, tn_add, Int.toNat_natCast, Int.reduceToNat, kI_le, kI_lt, kI_inj, decide_eq_true_eq, Bool.not_eq_true', decide_eq_false_iff_not, not_true_eq_false, not_false_eq_true, Classical.not_not, Bool.false_eq_true, if_true, if_false, z0, bI_k0, bI_k1, isB_b, isB_0, isB_1, kI_long, kd_stI, ln_stI, rv_stI]
            exact ⟨rfl, f3⟩
          · simp (disch := omega) only [ix_lit, inB_lit, decide_true, Bool.true_or, Bool.or_true, true_and, and_true, kI_add, kI_sub, kI_mul, tn_add, Int.toNat_natCast, Int.reduceToNat, kI_le, kI_lt, kI_inj, decide_eq_true_eq, Bool.not_eq_true', decide_eq_false_iff_not, not_true_eq_false, not_false_eq_true, Classical.not_not, Bool.false_eq_true, if_true, if_false, z0, bI_k0, bI_k1, isB_b, isB_0, isB_1, kI_long, kd_stI, ln_stI, rv_stI, Int.reduceEq]
            exact ⟨rfl, f3⟩
          · simp (disch := omega) only [ix_lit, inB_lit, decide_true, Bool.true_or, Bool.or_true, true_and, and_true, kI_add, kI_sub, kI_mul, tn_add, Int.toNat_natCast, Int.reduceToNat, kI_le, kI_lt, kI_inj, decide_eq_true_eq, Bool.not_eq_true', decide_eq_false_iff_not, not_true_eq_false, not_false_eq_true, Classical.not_not, Bool.false_eq_true, if_true, if_false, z0, bI_k0, bI_k1, isB_b, isB_0, isB_1, kI_long, kd_stI, ln_stI, rv_stI, Int.reduceEq, kd_1 F3, rv_1_5 F3, kd_12 F3, P3.i0]
            exact ⟨rfl, f3⟩
          · simp (disch := omega) only [ix_lit, inB_lit, decide_true, Bool.true_or, Bool.or_true, true_and, and_true, kI_add, kI_sub, kI_mul, tn_add, Int.toNat_natCast, Int.reduceToNat, kI_le, kI_lt, kI_inj, decide_eq_true_eq, Bool.not_eq_true', decide_eq_false_iff_not, not_true_eq_false, not_false_eq_true, Classical.not_not, Bool.false_eq_true, if_true, if_false, z0, bI_k0, bI_k1, isB_b, isB_0, isB_1, kI_long, kd_stI, ln_stI, rv_stI, Int.reduceEq, kd_1 F3, rv_1_5 F3, kd_12 F3, Pg_isFound_c F3 PG12 P3 B.S.wf wy']
            by_cases z : foundF y' = true
            · rw [if_neg (fun w => w z), if_pos z]
              exact ⟨rfl, f3⟩
            · rw [if_pos z, if_neg z]
              exact ⟨rfl, f3⟩
        suffices H : ∀ (m i : Nat) (y' : DY) (v' : Int) (h2 : AH), i + m = w.2.1 t → Fr (fun a _ => T a = 1 ∨ a = 12 ∨ a = 13) JM h h2 → XP y' v' 12 h2 → WFY s y' → tlF s (w.2.2 t) (w.2.1 t) 0 y = tlF s (w.2.2 t) m i y' → Safe 8 m_X_judge (56, [.ref 1, unV, .int (kI c), .ref (74 + 2 * t), .int (kI (-1)), .int (kI 0), .int (kI i)], [], h2) (fun x h' => Eqv x (some (.int (kI (if c = 0 then (if (tlF s (w.2.2 t) (w.2.1 t) 0 y).2.2 = 0 then -1 else ((tlF s (w.2.2 t) (w.2.1 t) 0 y).1 : Int)) else if c = 1 then ((tlF s (w.2.2 t) (w.2.1 t) 0 y).2.2 : Int) else if c = 2 then (yD (tlF s (w.2.2 t) (w.2.1 t) 0 y).2.1 : Int) else (if foundF (tlF s (w.2.2 t) (w.2.1 t) 0 y).2.1 = true then 1 else 0))))) ∧ FJd T h h') by
          exact H _ 0 y _ h1 (by omega) (e1.1.mono (fun a k w => Or.inr (by omega)) (fun _ _ w => w)) e1.2 B.wy rfl
        intro m
        induction m with
        | zero =>
          intro i y' v' h2 hi e2 P2 wy' et
          have B2 := B.scr e2 (fun a k w => by rcases w with w | w; exact Or.inl w; exact Or.inr (Or.inl (by omega)))
          have tw := fun a h1 h2 => B.t.two (a := a) h1 h2
          have X2 := X.fr e2 (fun a k h1 h2 => ⟨fun w => by have := tw a (by omega) (by omega); omega, fun w => w⟩) t ht
          have Tf2 := tr_fix B2.F ht
          refine s_X_judge_56 ?_
          simp (disch := omega) only [Tf2.2.1, X2.sz q3, ix_lit, inB_lit, decide_true, Bool.true_or, Bool.or_true, true_and, and_true, kI_add, kI_sub, kI_mul, tn_add, Int.toNat_natCast, Int.reduceToNat, kI_le, kI_lt, kI_inj, decide_eq_true_eq, Bool.not_eq_true', decide_eq_false_iff_not, not_true_eq_false, not_false_eq_true, Classical.not_not, Bool.false_eq_true, if_true, if_false, z0, bI_k0, bI_k1, isB_b, isB_0, isB_1, kI_long, kd_stI, ln_stI, rv_stI]
          rw [if_pos (by omega)]
          have := fin i 0 y' v' h2 e2 P2 wy' et (by omega)
          exact this
        | succ m ih =>
          intro i y' v' h2 hi e2 P2 wy' et
          have B2 := B.scr e2 (fun a k w => by rcases w with w | w; exact Or.inl w; exact Or.inr (Or.inl (by omega)))
          have tw := fun a h1 h2 => B.t.two (a := a) h1 h2
          have X2 := X.fr e2 (fun a k h1 h2 => ⟨fun w => by have := tw a (by omega) (by omega); omega, fun w => w⟩) t ht
          have F2 := B2.F
          have Tf2 := tr_fix F2 ht
          refine s_X_judge_56 ?_
          simp (disch := omega) only [Tf2.2.1, X2.sz q3, kd_1 F2, rv_1_5 F2, kd_12 F2, B2.r, ix_lit, inB_lit, decide_true, Bool.true_or, Bool.or_true, true_and, and_true, kI_add, kI_sub, kI_mul, tn_add, Int.toNat_natCast, Int.reduceToNat, kI_le, kI_lt, kI_inj, decide_eq_true_eq, Bool.not_eq_true', decide_eq_false_iff_not, not_true_eq_false, not_false_eq_true, Classical.not_not, Bool.false_eq_true, if_true, if_false, z0, bI_k0, bI_k1, isB_b, isB_0, isB_1, kI_long, kd_stI, ln_stI, rv_stI, Tr_at_c ht F2 Wt X2 q3]
          rw [if_neg (by omega)]
          have fb := Wt.2.2.2 i
          refine GI.use (Pg_obey_g F2 B2.S PG12 P2 B2.t wy' fb.1 fb.2) (by omega) (fun h3 e3 => ?_)
          have wl := whyD_le s y' (w.2.2 t i)
          have f3 : Fr (fun a _ => T a = 1 ∨ a = 12 ∨ a = 13) JM h h3 := e2.trans e3.1
          have et' : tlF s (w.2.2 t) (m + 1) i y' = if whyD s y' (w.2.2 t i) = 0 then tlF s (w.2.2 t) m (i + 1) (dD y' (w.2.2 t i)) else (i, y', whyD s y' (w.2.2 t i)) := rfl
          rw [et'] at et
          simp (disch := omega) only [ix_lit, inB_lit, decide_true, Bool.true_or, Bool.or_true, true_and, and_true, kI_add, kI_sub, kI_mul, tn_add, Int.toNat_natCast, Int.reduceToNat, kI_le, kI_lt, kI_inj, decide_eq_true_eq, Bool.not_eq_true', decide_eq_false_iff_not, not_true_eq_false, not_false_eq_true, Classical.not_not, Bool.false_eq_true, if_true, if_false, z0, bI_k0, bI_k1, isB_b, isB_0, isB_1, kI_long, kd_stI, ln_stI, rv_stI]
          by_cases z : whyD s y' (w.2.2 t i) = 0
          · rw [if_pos z] at et
            rw [if_neg (by omega)]
            have := ih (i + 1) _ _ h3 (by omega) f3 (e3.2.1 z) (wy'.ofD z) et
            rw [z]
            exact this
          · rw [if_neg z] at et
            rw [if_pos (by omega)]
            have X3 := X.fr f3 (fun a k h1 h2 => ⟨fun w => by have := tw a (by omega) (by omega); omega, fun w => w⟩) t ht
            have Tf3 := tr_fix (f3.fix F) ht
            have := fin i _ y' _ h3 f3 (e3.2.2 z) wy' et wl
            rw [if_neg z] at this
            refine s_X_judge_56 ?_
            have z' : ¬ (whyD s y' (w.2.2 t i) : Int) = 0 := by omega
            simp (disch := omega) only [Tf3.2.1, X3.sz q3, ix_lit, inB_lit, decide_true, Bool.true_or, Bool.or_true, true_and, and_true, kI_add, kI_sub, kI_mul, tn_add, Int.toNat_natCast, Int.reduceToNat, kI_le, kI_lt, kI_inj, decide_eq_true_eq, Bool.not_eq_true', decide_eq_false_iff_not, not_true_eq_false, not_false_eq_true, Classical.not_not, Bool.false_eq_true, if_true, if_false, z0, bI_k0, bI_k1, isB_b, isB_0, isB_1, kI_long, kd_stI, ln_stI, rv_stI, z']
            split
            · exact this
            · exact this
    · rw [if_neg (fun w => q2 w.2)]
      have p1 : (0 ≤ t ∧ t < 4) = True := eq_true q
      by_cases z1 : c < 0
      · simp (disch := omega) only [ix_lit, inB_lit, decide_true, Bool.true_or, Bool.or_true, true_and, and_true, kI_add, kI_sub, kI_mul, tn_add, Int.toNat_natCast, Int.reduceToNat, kI_le, kI_lt, kI_inj, decide_eq_true_eq, Bool.not_eq_true', decide_eq_false_iff_not, not_true_eq_false, not_false_eq_true, Classical.not_not, Bool.false_eq_true, if_true, if_false, z0, bI_k0, bI_k1, isB_b, isB_0, isB_1, kI_long, kd_stI, ln_stI, rv_stI, X_isTray_c, p1, z1]
        exact ⟨rfl, Fr_rfl _ _ _⟩
      · have z2 : ¬ c ≤ 3 := by omega
        simp (disch := omega) only [ix_lit, inB_lit, decide_true, Bool.true_or, Bool.or_true, true_and, and_true, kI_add, kI_sub, kI_mul, tn_add, Int.toNat_natCast, Int.reduceToNat, kI_le, kI_lt, kI_inj, decide_eq_true_eq, Bool.not_eq_true', decide_eq_false_iff_not, not_true_eq_false, not_false_eq_true, Classical.not_not, Bool.false_eq_true, if_true, if_false, z0, bI_k0, bI_k1, isB_b, isB_0, isB_1, kI_long, kd_stI, ln_stI, rv_stI, X_isTray_c, p1, z1, z2]
        exact ⟨rfl, Fr_rfl _ _ _⟩
  · rw [if_neg (fun w => q w.1)]
    simp (disch := omega) only [ix_lit, inB_lit, decide_true, Bool.true_or, Bool.or_true, true_and, and_true, kI_add, kI_sub, kI_mul, tn_add, Int.toNat_natCast, Int.reduceToNat, kI_le, kI_lt, kI_inj, decide_eq_true_eq, Bool.not_eq_true', decide_eq_false_iff_not, not_true_eq_false, not_false_eq_true, Classical.not_not, Bool.false_eq_true, if_true, if_false, z0, bI_k0, bI_k1, isB_b, isB_0, isB_1, kI_long, kd_stI, ln_stI, rv_stI, X_isTray_c, eq_false q]
    exact ⟨rfl, Fr_rfl _ _ _⟩
theorem qx_jd {T : Nat → Nat} {R : Nat → ST} {s : ST} {p : Nat} {y : DY} {v : Int} {hs : List DY} {nx : Nat} {h h1 : AH} (X : XI T R s p y v hs nx h) (e : FJd T h h1) : QX T R s p y v h h1 := by
  have P := X.I.fr X.B.F X.B.t e (fun x _ w => by rcases w with w | w; exact Or.inl w; exact Or.inr ⟨by rw [X.B.t.two (a := x) (by omega) (by omega)]; omega, by omega, by omega⟩) (fun x _ w => w.elim)
  exact ⟨fun x => T x = 1 ∨ x = 12 ∨ x = 13, e.fn (fun _ _ w => w) (fun _ _ w => w.elim), e.fix X.B.F, fun x w => by rcases w with w | w; exact Or.inl w; exact Or.inr (Or.inl (by omega)), P.1, by rw [P.2, e.2.2.2.2.1]; omega, by rw [e.2.2.2.1]; omega⟩
theorem op_cell {L : Nat} {xs : Nat → Int32} {c : Nat} {h : AH} (I : Inv L xs c h) (c5 : c ≤ 600) (a0 a1 : Int32) : OpI L xs c m_X_cell m_M_cell [.int a0, .int a1] h := by
  obtain ⟨T, R, s, p, y, v, hs, nx, w, tp, nt, fa, fb, im, C, M, W, O, S, hv, B⟩ := I
  obtain ⟨ea0, la0, ua0⟩ := int_b a0
  obtain ⟨ea1, la1, ua1⟩ := int_b a1
  rw [ea0, ea1]
  exact opq C M W O S hv B c5 (by omega) (by omega) ((X_cell_g C.X.B la0 ua0 la1 ua1).mono (Nat.le_refl _) (fun h1 e => qx_fg C.X e)) (fun h1 M1 => (M_cell_g M1.B.M la0 ua0 la1 ua1).mono (Nat.le_refl _) (fun h3 e => Or.inl (qm_im e)))
theorem op_hand {L : Nat} {xs : Nat → Int32} {c : Nat} {h : AH} (I : Inv L xs c h) (c5 : c ≤ 600) (a0 a1 : Int32) : OpI L xs c m_X_hand m_M_hand [.int a0, .int a1] h := by
  obtain ⟨T, R, s, p, y, v, hs, nx, w, tp, nt, fa, fb, im, C, M, W, O, S, hv, B⟩ := I
  obtain ⟨ea0, la0, ua0⟩ := int_b a0
  obtain ⟨ea1, la1, ua1⟩ := int_b a1
  rw [ea0, ea1]
  exact opq C M W O S hv B c5 (by omega) (by omega) ((X_hand_g C.X.B la0 ua0 la1 ua1).mono (Nat.le_refl _) (fun h1 e => qx_fg C.X e)) (fun h1 M1 => (M_hand_g M1.B.M la0 ua0 la1 ua1).mono (Nat.le_refl _) (fun h3 e => Or.inl (qm_im e)))
theorem op_likely {L : Nat} {xs : Nat → Int32} {c : Nat} {h : AH} (I : Inv L xs c h) (c5 : c ≤ 600) (a0 a1 : Int32) : OpI L xs c m_X_likely m_M_likely [.int a0, .int a1] h := by
  obtain ⟨T, R, s, p, y, v, hs, nx, w, tp, nt, fa, fb, im, C, M, W, O, S, hv, B⟩ := I
  obtain ⟨ea0, la0, ua0⟩ := int_b a0
  obtain ⟨ea1, la1, ua1⟩ := int_b a1
  rw [ea0, ea1]
  exact opq C M W O S hv B c5 (by omega) (by omega) ((X_likely_g C.X.B la0 ua0 la1 ua1).mono (Nat.le_refl _) (fun h1 e => qx_fg C.X e)) (fun h1 M1 => (M_likely_g M1.B.M la0 ua0 la1 ua1).mono (Nat.le_refl _) (fun h3 e => Or.inl (qm_im e)))
theorem op_likeliest {L : Nat} {xs : Nat → Int32} {c : Nat} {h : AH} (I : Inv L xs c h) (c5 : c ≤ 600) : OpI L xs c m_X_likeliest m_M_likeliest [] h := by
  obtain ⟨T, R, s, p, y, v, hs, nx, w, tp, nt, fa, fb, im, C, M, W, O, S, hv, B⟩ := I
  exact opq C M W O S hv B c5 (by omega) (by omega) ((X_likeliest_g C.X.B).mono (Nat.le_refl _) (fun h1 e => qx_fg C.X e)) (fun h1 M1 => (M_likeliest_g M1.B.M).mono (Nat.le_refl _) (fun h3 e => Or.inl (qm_im e)))
theorem op_count {L : Nat} {xs : Nat → Int32} {c : Nat} {h : AH} (I : Inv L xs c h) (c5 : c ≤ 600) (a0 : Int32) : OpI L xs c m_X_count m_M_count [.int a0] h := by
  obtain ⟨T, R, s, p, y, v, hs, nx, w, tp, nt, fa, fb, im, C, M, W, O, S, hv, B⟩ := I
  obtain ⟨ea0, la0, ua0⟩ := int_b a0
  rw [ea0]
  exact opq C M W O S hv B c5 (by omega) (by omega) ((X_count_g C.X.B C.tx.i la0 ua0).mono (Nat.le_refl _) (fun h1 e => qx_fg C.X e)) (fun h1 M1 => (M_count_g M1.B M1.tm.i la0 ua0).mono (Nat.le_refl _) (fun h3 e => Or.inl (qm_im e)))
theorem op_habits {L : Nat} {xs : Nat → Int32} {c : Nat} {h : AH} (I : Inv L xs c h) (c5 : c ≤ 600) (a0 a1 : Int32) : OpI L xs c m_X_habits m_M_habits [.int a0, .int a1] h := by
  obtain ⟨T, R, s, p, y, v, hs, nx, w, tp, nt, fa, fb, im, C, M, W, O, S, hv, B⟩ := I
  obtain ⟨ea0, la0, ua0⟩ := int_b a0
  obtain ⟨ea1, la1, ua1⟩ := int_b a1
  rw [ea0, ea1]
  exact opq C M W O S hv B c5 (by omega) (by omega) ((X_habits_g C.X.B C.ts W la0 ua0 la1 ua1).mono (Nat.le_refl _) (fun h1 e => qx_fs C.X e)) (fun h1 M1 => (M_habits_g M1.B M1.ts W la0 ua0 la1 ua1).mono (Nat.le_refl _) (fun h3 e => Or.inr e))
theorem op_look {L : Nat} {xs : Nat → Int32} {c : Nat} {h : AH} (I : Inv L xs c h) (c5 : c ≤ 600) (a0 a1 : Int32) : OpI L xs c m_X_look m_M_look [.int a0, .int a1] h := by
  obtain ⟨T, R, s, p, y, v, hs, nx, w, tp, nt, fa, fb, im, C, M, W, O, S, hv, B⟩ := I
  obtain ⟨ea0, la0, ua0⟩ := int_b a0
  obtain ⟨ea1, la1, ua1⟩ := int_b a1
  rw [ea0, ea1]
  exact opq C M W O S hv B c5 (by omega) (by omega) ((X_look_g C.X.B C.ts W la0 ua0 la1 ua1).mono (Nat.le_refl _) (fun h1 e => qx_fs C.X e)) (fun h1 M1 => (M_look_g M1.B M1.ts W la0 ua0 la1 ua1).mono (Nat.le_refl _) (fun h3 e => Or.inr e))
theorem op_judge {L : Nat} {xs : Nat → Int32} {c : Nat} {h : AH} (I : Inv L xs c h) (c5 : c ≤ 600) (a0 a1 : Int32) : OpI L xs c m_X_judge m_M_judge [.int a0, .int a1] h := by
  obtain ⟨T, R, s, p, y, v, hs, nx, w, tp, nt, fa, fb, im, C, M, W, O, S, hv, B⟩ := I
  obtain ⟨ea0, la0, ua0⟩ := int_b a0
  obtain ⟨ea1, la1, ua1⟩ := int_b a1
  rw [ea0, ea1]
  exact opq C M W O S hv B c5 (by omega) (by omega) ((X_judge_g2 C.X.B C.ts W la0 ua0 la1 ua1).mono (Nat.le_refl _) (fun h1 e => qx_jd C.X e)) (fun h1 M1 => (M_judge_g M1.B M1.ts W la0 ua0 la1 ua1).mono (Nat.le_refl _) (fun h3 e => Or.inr e))
theorem op_carried {L : Nat} {xs : Nat → Int32} {c : Nat} {h : AH} (I : Inv L xs c h) (c5 : c ≤ 600) (a0 : Int32) : OpJ L xs c m_X_carried m_M_carried [.int a0] h := by
  obtain ⟨T, R, s, p, y, v, hs, nx, w, tp, nt, fa, fb, im, C, M, W, O, S, hv, B⟩ := I
  obtain ⟨ea0, la0, ua0⟩ := int_b a0
  rw [ea0]
  exact opqJ C M W O S hv B c5 (by omega) (by omega) ((X_carried_g C.X.B C.ts W la0 ua0).mono (Nat.le_refl _) (fun h1 e => qx_fs C.X e)) (fun h1 M1 => (M_carried_g M1.B M1.ts W la0 ua0).mono (Nat.le_refl _) (fun h3 e => qm_im e))
theorem op_changes {L : Nat} {xs : Nat → Int32} {c : Nat} {h : AH} (I : Inv L xs c h) (c5 : c ≤ 600) (a0 a1 : Int32) : OpI L xs c m_X_changes m_M_changes [.int a0, .int a1] h := by
  obtain ⟨T, R, s, p, y, v, hs, nx, w, tp, nt, fa, fb, im, C, M, W, O, S, hv, B⟩ := I
  obtain ⟨ea0, la0, ua0⟩ := int_b a0
  obtain ⟨ea1, la1, ua1⟩ := int_b a1
  rw [ea0, ea1]
  exact opq C M W O S hv B c5 (by omega) (by omega) ((X_changes_g C.X.B C.ts W la0 ua0 la1 ua1).mono (Nat.le_refl _) (fun h1 e => qx_fs C.X e)) (fun h1 M1 => (M_changes_g M1.B M1.ts W la0 ua0 la1 ua1).mono (Nat.le_refl _) (fun h3 e => Or.inl (qm_fw e)))
theorem op_covers {L : Nat} {xs : Nat → Int32} {c : Nat} {h : AH} (I : Inv L xs c h) (c5 : c ≤ 600) (a0 a1 a2 : Int32) : OpI L xs c m_X_covers m_M_covers [.int a0, .int a1, .int a2] h := by
  obtain ⟨T, R, s, p, y, v, hs, nx, w, tp, nt, fa, fb, im, C, M, W, O, S, hv, B⟩ := I
  obtain ⟨ea0, la0, ua0⟩ := int_b a0
  obtain ⟨ea1, la1, ua1⟩ := int_b a1
  obtain ⟨ea2, la2, ua2⟩ := int_b a2
  rw [ea0, ea1, ea2]
  exact opq C M W O S hv B c5 (by omega) (by omega) ((X_covers_c C.X.B C.ts W la0 ua0 la1 ua1 la2 ua2).mono (Nat.le_refl _) (fun h1 e => by rw [e]; exact qx_rfl C.X)) (fun h1 M1 => (M_covers_g M1.B M1.ts W la0 ua0 la1 ua1 la2 ua2).mono (Nat.le_refl _) (fun h3 e => Or.inl (qm_0 e)))
theorem op_longest {L : Nat} {xs : Nat → Int32} {c : Nat} {h : AH} (I : Inv L xs c h) (c5 : c ≤ 600) (a0 a1 : Int32) : OpI L xs c m_X_longest m_M_longest [.int a0, .int a1] h := by
  obtain ⟨T, R, s, p, y, v, hs, nx, w, tp, nt, fa, fb, im, C, M, W, O, S, hv, B⟩ := I
  obtain ⟨ea0, la0, ua0⟩ := int_b a0
  obtain ⟨ea1, la1, ua1⟩ := int_b a1
  rw [ea0, ea1]
  exact opq C M W O S hv B c5 (by omega) (by omega) ((X_longest_g C.X la0 ua0 la1 ua1).mono (Nat.le_refl _) (fun h1 e => qx_g e)) (fun h1 M1 => (M_lon_g M1.B.M (aim := 0) (Or.inl rfl) (u := m_M_longest) (Or.inl ⟨rfl, rfl⟩) la0 ua0 la1 ua1).mono (Nat.le_refl _) (fun h3 e => Or.inl (qm_rw e)))
theorem op_soonest {L : Nat} {xs : Nat → Int32} {c : Nat} {h : AH} (I : Inv L xs c h) (c5 : c ≤ 600) (a0 a1 : Int32) : OpI L xs c m_X_soonest m_M_soonest [.int a0, .int a1] h := by
  obtain ⟨T, R, s, p, y, v, hs, nx, w, tp, nt, fa, fb, im, C, M, W, O, S, hv, B⟩ := I
  obtain ⟨ea0, la0, ua0⟩ := int_b a0
  obtain ⟨ea1, la1, ua1⟩ := int_b a1
  rw [ea0, ea1]
  exact opq C M W O S hv B c5 (by omega) (by omega) ((X_soonest_g C.X la0 ua0 la1 ua1).mono (Nat.le_refl _) (fun h1 e => qx_g e)) (fun h1 M1 => (M_lon_g M1.B.M (aim := 2) (Or.inr rfl) (u := m_M_soonest) (Or.inr ⟨rfl, rfl⟩) la0 ua0 la1 ua1).mono (Nat.le_refl _) (fun h3 e => Or.inl (qm_rw e)))
theorem op_longWay {L : Nat} {xs : Nat → Int32} {c : Nat} {h : AH} (I : Inv L xs c h) (c5 : c ≤ 600) (a0 a1 a2 : Int32) : OpI L xs c m_X_longWay m_M_longWay [.int a0, .int a1, .int a2] h := by
  obtain ⟨T, R, s, p, y, v, hs, nx, w, tp, nt, fa, fb, im, C, M, W, O, S, hv, B⟩ := I
  obtain ⟨ea0, la0, ua0⟩ := int_b a0
  obtain ⟨ea1, la1, ua1⟩ := int_b a1
  obtain ⟨ea2, la2, ua2⟩ := int_b a2
  rw [ea0, ea1, ea2]
  exact opq C M W O S hv B c5 (by omega) (by omega) ((X_longWay_g C.X la0 ua0 la1 ua1 la2 ua2).mono (Nat.le_refl _) (fun h1 e => qx_g e)) (fun h1 M1 => (M_longWay_g M1.B.M la0 ua0 la1 ua1 la2 ua2).mono (Nat.le_refl _) (fun h3 e => Or.inl (qm_rw e)))
theorem op_way {L : Nat} {xs : Nat → Int32} {c : Nat} {h : AH} (I : Inv L xs c h) (c5 : c ≤ 600) (a0 a1 a2 : Int32) : OpI L xs c m_X_way m_M_way [.int a0, .int a1, .int a2] h := by
  obtain ⟨T, R, s, p, y, v, hs, nx, w, tp, nt, fa, fb, im, C, M, W, O, S, hv, B⟩ := I
  obtain ⟨ea0, la0, ua0⟩ := int_b a0
  obtain ⟨ea1, la1, ua1⟩ := int_b a1
  obtain ⟨ea2, la2, ua2⟩ := int_b a2
  rw [ea0, ea1, ea2]
  exact opq C M W O S hv B c5 (by omega) (by omega) ((X_way_g C.X la0 ua0 la1 ua1 la2 ua2).mono (Nat.le_refl _) (fun h1 e => qx_g e)) (fun h1 M1 => (M_way_g M1.B.M la0 ua0 la1 ua1 la2 ua2).mono (Nat.le_refl _) (fun h3 e => Or.inl (qm_rw e)))
theorem op_stuck {L : Nat} {xs : Nat → Int32} {c : Nat} {h : AH} (I : Inv L xs c h) (c5 : c ≤ 600) (a0 : Int32) : OpI L xs c m_X_stuck m_M_stuck [.int a0] h := by
  obtain ⟨T, R, s, p, y, v, hs, nx, w, tp, nt, fa, fb, im, C, M, W, O, S, hv, B⟩ := I
  obtain ⟨ea0, la0, ua0⟩ := int_b a0
  rw [ea0]
  exact opq C M W O S hv B c5 (by omega) (by omega) ((X_stuck_g C.X la0 ua0).mono (Nat.le_refl _) (fun h1 e => qx_g e)) (fun h1 M1 => (M_stuck_g M1.B.M la0 ua0).mono (Nat.le_refl _) (fun h3 e => Or.inl (qm_rw e)))
theorem op_stuckWay {L : Nat} {xs : Nat → Int32} {c : Nat} {h : AH} (I : Inv L xs c h) (c5 : c ≤ 600) (a0 a1 : Int32) : OpI L xs c m_X_stuckWay m_M_stuckWay [.int a0, .int a1] h := by
  obtain ⟨T, R, s, p, y, v, hs, nx, w, tp, nt, fa, fb, im, C, M, W, O, S, hv, B⟩ := I
  obtain ⟨ea0, la0, ua0⟩ := int_b a0
  obtain ⟨ea1, la1, ua1⟩ := int_b a1
  rw [ea0, ea1]
  exact opq C M W O S hv B c5 (by omega) (by omega) ((X_stuckWay_g C.X la0 ua0 la1 ua1).mono (Nat.le_refl _) (fun h1 e => qx_g e)) (fun h1 M1 => (M_stuckWay_g M1.B.M la0 ua0 la1 ua1).mono (Nat.le_refl _) (fun h3 e => Or.inl (qm_rw e)))
theorem op_reach {L : Nat} {xs : Nat → Int32} {c : Nat} {h : AH} (I : Inv L xs c h) (c5 : c ≤ 600) (a0 : Int32) : OpI L xs c m_X_reach m_M_reach [.int a0] h := by
  obtain ⟨T, R, s, p, y, v, hs, nx, w, tp, nt, fa, fb, im, C, M, W, O, S, hv, B⟩ := I
  obtain ⟨ea0, la0, ua0⟩ := int_b a0
  rw [ea0]
  exact opq C M W O S hv B c5 (by omega) (by omega) ((X_reach_g C.X la0 ua0).mono (Nat.le_refl _) (fun h1 e => qx_g e)) (fun h1 M1 => (M_reach_g M1.B.M la0 ua0).mono (Nat.le_refl _) (fun h3 e => Or.inl (qm_rc e)))
theorem op_ahead {L : Nat} {xs : Nat → Int32} {c : Nat} {h : AH} (I : Inv L xs c h) (c5 : c ≤ 600) (a0 a1 : Int32) : OpI L xs c m_X_ahead m_M_ahead [.int a0, .int a1] h := by
  obtain ⟨T, R, s, p, y, v, hs, nx, w, tp, nt, fa, fb, im, C, M, W, O, S, hv, B⟩ := I
  obtain ⟨ea0, la0, ua0⟩ := int_b a0
  obtain ⟨ea1, la1, ua1⟩ := int_b a1
  rw [ea0, ea1]
  exact opq C M W O S hv B c5 (by omega) (by omega) ((X_ahead_g C.X la0 ua0 la1 ua1).mono (Nat.le_refl _) (fun h1 e => qx_g e)) (fun h1 M1 => (M_ahead_g M1.B.M la0 ua0 la1 ua1).mono (Nat.le_refl _) (fun h3 e => Or.inl (qm_rc e)))
theorem op_rows {L : Nat} {xs : Nat → Int32} {c : Nat} {h : AH} (I : Inv L xs c h) (c5 : c ≤ 600) (a0 a1 : Int32) : OpJ L xs c m_X_rows m_M_rows [.int a0, .int a1] h := by
  obtain ⟨T, R, s, p, y, v, hs, nx, w, tp, nt, fa, fb, im, C, M, W, O, S, hv, B⟩ := I
  obtain ⟨ea0, la0, ua0⟩ := int_b a0
  obtain ⟨ea1, la1, ua1⟩ := int_b a1
  rw [ea0, ea1]
  exact opqJ C M W O S hv B c5 (by omega) (by omega) ((X_rows_g C.X la0 ua0 la1 ua1).mono (Nat.le_refl _) (fun h1 e => qx_g e)) (fun h1 M1 => (M_rows_g M1.B.M la0 ua0 la1 ua1).mono (Nat.le_refl _) (fun h3 e => qm_rc e))
theorem op_ends {L : Nat} {xs : Nat → Int32} {c : Nat} {h : AH} (I : Inv L xs c h) (c5 : c ≤ 600) (a0 : Int32) : OpJ L xs c m_X_ends m_M_ends [.int a0] h := by
  obtain ⟨T, R, s, p, y, v, hs, nx, w, tp, nt, fa, fb, im, C, M, W, O, S, hv, B⟩ := I
  obtain ⟨ea0, la0, ua0⟩ := int_b a0
  rw [ea0]
  exact opqJ C M W O S hv B c5 (by omega) (by omega) ((X_ends_g C.X la0 ua0).mono (Nat.le_refl _) (fun h1 e => qx_g e)) (fun h1 M1 => (M_ends_g M1.B.M la0 ua0).mono (Nat.le_refl _) (fun h3 e => qm_rc e))
theorem op_safest {L : Nat} {xs : Nat → Int32} {c : Nat} {h : AH} (I : Inv L xs c h) (c5 : c ≤ 600) (a0 a1 a2 : Int32) : OpI L xs c m_X_safest m_M_safest [.int a0, .int a1, .int a2] h := by
  obtain ⟨T, R, s, p, y, v, hs, nx, w, tp, nt, fa, fb, im, C, M, W, O, S, hv, B⟩ := I
  obtain ⟨ea0, la0, ua0⟩ := int_b a0
  obtain ⟨ea1, la1, ua1⟩ := int_b a1
  obtain ⟨ea2, la2, ua2⟩ := int_b a2
  rw [ea0, ea1, ea2]
  exact opq C M W O S hv B c5 (by omega) (by omega) ((X_safest_g C.X la0 ua0 la1 ua1 la2 ua2).mono (Nat.le_refl _) (fun h1 e => qx_g e)) (fun h1 M1 => (M_safest_g M1.B.M la0 ua0 la1 ua1 la2 ua2).mono (Nat.le_refl _) (fun h3 e => Or.inl (qm_sf e)))
theorem op_chance {L : Nat} {xs : Nat → Int32} {c : Nat} {h : AH} (I : Inv L xs c h) (c5 : c ≤ 600) (a0 a1 a2 a3 : Int32) : OpJ L xs c m_X_chance m_M_chance [.int a0, .int a1, .int a2, .int a3] h := by
  obtain ⟨T, R, s, p, y, v, hs, nx, w, tp, nt, fa, fb, im, C, M, W, O, S, hv, B⟩ := I
  obtain ⟨ea0, la0, ua0⟩ := int_b a0
  obtain ⟨ea1, la1, ua1⟩ := int_b a1
  obtain ⟨ea2, la2, ua2⟩ := int_b a2
  obtain ⟨ea3, la3, ua3⟩ := int_b a3
  rw [ea0, ea1, ea2, ea3]
  exact opqJ C M W O S hv B c5 (by omega) (by omega) ((X_chance_g C.X la0 ua0 la1 ua1 la2 ua2 la3 ua3).mono (Nat.le_refl _) (fun h1 e => qx_ch e)) (fun h1 M1 => (M_chance_g M1.B.M la0 ua0 la1 ua1 la2 ua2 la3 ua3).mono (Nat.le_refl _) (fun h3 e => qm_im e))
theorem op_latest {L : Nat} {xs : Nat → Int32} {c : Nat} {h : AH} (I : Inv L xs c h) (c5 : c ≤ 600) (a0 a1 : Int32) : OpI L xs c m_X_latest m_M_latest [.int a0, .int a1] h := by
  obtain ⟨T, R, s, p, y, v, hs, nx, w, tp, nt, fa, fb, im, C, M, W, O, S, hv, B⟩ := I
  obtain ⟨ea0, la0, ua0⟩ := int_b a0
  obtain ⟨ea1, la1, ua1⟩ := int_b a1
  rw [ea0, ea1]
  exact opq C M W O S hv B c5 (by omega) (by omega) ((X_latest_g C.X la0 ua0 la1 ua1).mono (Nat.le_refl _) (fun h1 e => qx_ch e)) (fun h1 M1 => (M_latest_g M1.B.M la0 ua0 la1 ua1).mono (Nat.le_refl _) (fun h3 e => Or.inl (qm_im e)))
theorem op_fault {L : Nat} {xs : Nat → Int32} {c : Nat} {h : AH} (I : Inv L xs c h) (c5 : c ≤ 600) (a0 : Int32) : OpI L xs c m_X_fault m_M_fault [.int a0] h := by
  obtain ⟨T, R, s, p, y, v, hs, nx, w, tp, nt, fa, fb, im, C, M, W, O, S, hv, B⟩ := I
  obtain ⟨ea0, la0, ua0⟩ := int_b a0
  rw [ea0]
  exact opq C M W O S hv B c5 (by omega) (by omega) ((X_fault_g C.X.B.F C.f C.g la0 ua0).mono (Nat.le_refl _) (fun h1 e => by rw [e]; exact qx_rfl C.X)) (fun h1 M1 => (M_fault_g M1.B.M.fix M1.f M1.g la0 ua0).mono (Nat.le_refl _) (fun h3 e => Or.inl (qm_0 e)))
theorem op_wins {L : Nat} {xs : Nat → Int32} {c : Nat} {h : AH} (I : Inv L xs c h) (c5 : c ≤ 600) (a0 a1 a2 : Int32) : OpI L xs c m_X_wins m_M_wins [.int a0, .int a1, .int a2] h := by
  obtain ⟨T, R, s, p, y, v, hs, nx, w, tp, nt, fa, fb, im, C, M, W, O, S, hv, B⟩ := I
  obtain ⟨ea0, la0, ua0⟩ := int_b a0
  obtain ⟨ea1, la1, ua1⟩ := int_b a1
  obtain ⟨ea2, la2, ua2⟩ := int_b a2
  rw [ea0, ea1, ea2]
  by_cases q : gmP s a0.toInt a1.toInt a2.toInt
  · obtain ⟨A, hA⟩ : ∃ A : Nat, a0.toInt = A := ⟨a0.toInt.toNat, by unfold gmP at q; omega⟩
    obtain ⟨A1, hA1⟩ : ∃ A : Nat, a1.toInt = A := ⟨a1.toInt.toNat, by unfold gmP at q; omega⟩
    obtain ⟨A2, hA2⟩ : ∃ A : Nat, a2.toInt = A := ⟨a2.toInt.toNat, by unfold gmP at q; omega⟩
    rw [hA, hA1, hA2]
    rw [hA, hA1, hA2] at q
    have b1 : A < sH s := by unfold gmP at q; omega
    have b2 : A1 < sH s := by unfold gmP at q; omega
    have b3 : A2 ≤ 1 := by unfold gmP at q; omega
    exact opq C M W O S hv B c5 (by omega) (by omega) ((X_wins_g C.X b1 b2 b3).mono (Nat.le_refl _) (fun h1 e => qx_g e)) (fun h1 M1 => (M_wins_g M1.B.M b1 b2 b3).mono (Nat.le_refl _) (fun h3 e => Or.inl (qm_gm e)))
  · exact opq C M W O S hv B c5 (by omega) (by omega) ((X_wins_no C.X.B la0 ua0 la1 ua1 la2 ua2 q).mono (Nat.le_refl _) (fun h1 e => by rw [e]; exact qx_rfl C.X)) (fun h1 M1 => (M_game_no M1.B.M la0 ua0 la1 ua1 la2 ua2 q (u := m_M_wins) (by simp)).mono (Nat.le_refl _) (fun h3 e => Or.inl (qm_gm e)))
theorem op_best {L : Nat} {xs : Nat → Int32} {c : Nat} {h : AH} (I : Inv L xs c h) (c5 : c ≤ 600) (a0 a1 a2 : Int32) : OpI L xs c m_X_best m_M_best [.int a0, .int a1, .int a2] h := by
  obtain ⟨T, R, s, p, y, v, hs, nx, w, tp, nt, fa, fb, im, C, M, W, O, S, hv, B⟩ := I
  obtain ⟨ea0, la0, ua0⟩ := int_b a0
  obtain ⟨ea1, la1, ua1⟩ := int_b a1
  obtain ⟨ea2, la2, ua2⟩ := int_b a2
  rw [ea0, ea1, ea2]
  by_cases q : gmP s a0.toInt a1.toInt a2.toInt
  · obtain ⟨A, hA⟩ : ∃ A : Nat, a0.toInt = A := ⟨a0.toInt.toNat, by unfold gmP at q; omega⟩
    obtain ⟨A1, hA1⟩ : ∃ A : Nat, a1.toInt = A := ⟨a1.toInt.toNat, by unfold gmP at q; omega⟩
    obtain ⟨A2, hA2⟩ : ∃ A : Nat, a2.toInt = A := ⟨a2.toInt.toNat, by unfold gmP at q; omega⟩
    rw [hA, hA1, hA2]
    rw [hA, hA1, hA2] at q
    have b1 : A < sH s := by unfold gmP at q; omega
    have b2 : A1 < sH s := by unfold gmP at q; omega
    have b3 : A2 ≤ 1 := by unfold gmP at q; omega
    exact opq C M W O S hv B c5 (by omega) (by omega) ((X_best_g C.X b1 b2 b3).mono (Nat.le_refl _) (fun h1 e => qx_g e)) (fun h1 M1 => (M_best_g M1.B.M b1 b2 b3).mono (Nat.le_refl _) (fun h3 e => Or.inl (qm_gm e)))
  · exact opq C M W O S hv B c5 (by omega) (by omega) ((X_best_no C.X.B la0 ua0 la1 ua1 la2 ua2 q).mono (Nat.le_refl _) (fun h1 e => by rw [e]; exact qx_rfl C.X)) (fun h1 M1 => (M_game_no M1.B.M la0 ua0 la1 ua1 la2 ua2 q (u := m_M_best) (by simp)).mono (Nat.le_refl _) (fun h3 e => Or.inl (qm_gm e)))
theorem op_lasts {L : Nat} {xs : Nat → Int32} {c : Nat} {h : AH} (I : Inv L xs c h) (c5 : c ≤ 600) (a0 a1 a2 : Int32) : OpI L xs c m_X_lasts m_M_lasts [.int a0, .int a1, .int a2] h := by
  obtain ⟨T, R, s, p, y, v, hs, nx, w, tp, nt, fa, fb, im, C, M, W, O, S, hv, B⟩ := I
  obtain ⟨ea0, la0, ua0⟩ := int_b a0
  obtain ⟨ea1, la1, ua1⟩ := int_b a1
  obtain ⟨ea2, la2, ua2⟩ := int_b a2
  rw [ea0, ea1, ea2]
  by_cases q : gmP s a0.toInt a1.toInt a2.toInt
  · obtain ⟨A, hA⟩ : ∃ A : Nat, a0.toInt = A := ⟨a0.toInt.toNat, by unfold gmP at q; omega⟩
    obtain ⟨A1, hA1⟩ : ∃ A : Nat, a1.toInt = A := ⟨a1.toInt.toNat, by unfold gmP at q; omega⟩
    obtain ⟨A2, hA2⟩ : ∃ A : Nat, a2.toInt = A := ⟨a2.toInt.toNat, by unfold gmP at q; omega⟩
    rw [hA, hA1, hA2]
    rw [hA, hA1, hA2] at q
    have b1 : A < sH s := by unfold gmP at q; omega
    have b2 : A1 < sH s := by unfold gmP at q; omega
    have b3 : A2 ≤ 1 := by unfold gmP at q; omega
    exact opq C M W O S hv B c5 (by omega) (by omega) ((X_lasts_g C.X b1 b2 b3).mono (Nat.le_refl _) (fun h1 e => qx_g e)) (fun h1 M1 => (M_lasts_g M1.B.M b1 b2 b3).mono (Nat.le_refl _) (fun h3 e => Or.inl (qm_gm e)))
  · exact opq C M W O S hv B c5 (by omega) (by omega) ((X_lasts_no C.X.B la0 ua0 la1 ua1 la2 ua2 q).mono (Nat.le_refl _) (fun h1 e => by rw [e]; exact qx_rfl C.X)) (fun h1 M1 => (M_game_no M1.B.M la0 ua0 la1 ua1 la2 ua2 q (u := m_M_lasts) (by simp)).mono (Nat.le_refl _) (fun h3 e => Or.inl (qm_gm e)))
