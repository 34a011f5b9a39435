/-! look, carried -/
theorem M_mayBy_g {s : ST} {y : DY} {h : AH} (C : MC s y h) {a c set : Nat} (ha : a < 4) (hc : c < sN s) (hs : set < 1024) : GI 6 m_M_mayBy [.ref 88, .int (kI a), .int (kI c), .int (kI set)] h (kI (mayN s y a c set)) (PostM s y h) := by
  have F := C.fix
  have n2 := C.wf.n12
  have b9 := C.wy.2.2.2.2 a
  have hm := C.wy.m12 C.wf
  refine GIo (s_M_mayBy_0 ?_)
  simp (disch := omega) only [kd_88 F, rv_88_1 F, kd_89 F, ln_89 F, ix_lit, inB_lit, decide_true, Bool.true_or, Bool.or_true, true_and, and_true, kI_add, kI_sub, kI_mul, tn_add, Int.toNat_natCast, Int.reduceToNat, kI_le, kI_lt, kI_inj, decide_eq_true_eq, Bool.not_eq_true', decide_eq_false_iff_not, not_true_eq_false, not_false_eq_true, Classical.not_not, Bool.false_eq_true, if_true, if_false, z0, bI_k0, bI_k1, isB_b, isB_0, isB_1, kI_long, kd_stI, ln_stI, rv_stI, C.ib]
  suffices H : ∀ k, k ≤ 10 → ∀ (n : Nat) (h3 : AH), n ≤ 9 → Fr ID JM h h3 → MC s (dHab y a n) h3 → Safe 5 m_M_mayBy (17, [.ref 88, .int (kI a), .int (kI c), .int (kI set), .int (kI (yB y a)), .int (kI (cnt (fun hb => set.testBit hb && mayF s a hb c (yD y) (yL y)) k : Nat)), .int (kI k)], [], h3) (fun x h' => Eqv x (some (.int (kI (mayN s y a c set)))) ∧ PostM s y h h') by
    exact H 0 (by omega) (yB y a) h b9 (Fr_rfl _ _ _) (by rw [dHab_self]; exact C)
  refine down_ind 10 ?_ ?_
  · intro n h3 hn e3 C3
    have F3 := C3.fix
    refine s_M_mayBy_17 ?_
    simp (disch := omega) only [kd_88 F3, rv_88_1 F3, kd_89 F3, ln_89 F3, ix_lit, inB_lit, decide_true, Bool.true_or, Bool.or_true, true_and, and_true, kI_add, kI_sub, kI_mul, tn_add, Int.toNat_natCast, Int.reduceToNat, kI_le, kI_lt, kI_inj, decide_eq_true_eq, Bool.not_eq_true', decide_eq_false_iff_not, not_true_eq_false, not_false_eq_true, Classical.not_not, Bool.false_eq_true, if_true, if_false, z0, bI_k0, bI_k1, isB_b, isB_0, isB_1, kI_long, kd_stI, ln_stI, rv_stI, Int.cast_ofNat_Int, Int.le_refl]
    have := st_B C3 ha b9
    rw [dHab_dHab, dHab_self] at this
    exact ⟨rfl, e3.trans this.1, this.2⟩
  · intro k hk ih n h3 hn e3 C3
    have F3 := C3.fix
    have z1 : ¬ (10 : Int) ≤ (k : Int) := by omega
    have S3 := st_B C3 ha (show k ≤ 9 by omega)
    rw [dHab_dHab] at S3
    rw [cnt_s] at ih
    have e4 := e3.trans S3.1
    have C4 := S3.2
    have F4 := C4.fix
    have i22 : ivA (stI h3 89 (25 + a) (kI k)) 89 22 = kI (yD y) := C4.i22
    have i23 : ivA (stI h3 89 (25 + a) (kI k)) 89 23 = kI (yL y) := C4.i23
    refine s_M_mayBy_17 ?_
    by_cases z : set.testBit k = true
    · rw [z] at ih
      simp (disch := omega) only [kd_88 F3, rv_88_1 F3, kd_89 F3, ln_89 F3, ix_lit, inB_lit, decide_true, Bool.true_or, Bool.or_true, true_and, and_true, kI_add, kI_sub, kI_mul, tn_add, Int.toNat_natCast, Int.reduceToNat, kI_le, kI_lt, kI_inj, decide_eq_true_eq, Bool.not_eq_true', decide_eq_false_iff_not, not_true_eq_false, not_false_eq_true, Classical.not_not, Bool.false_eq_true, if_true, if_false, z0, bI_k0, bI_k1, isB_b, isB_0, isB_1, kI_long, kd_stI, ln_stI, rv_stI, z1, M_isIn_c, z, i22, i23]
      refine GI.use (M_mayDraw_g C4 ha hc hm C.wy.2.1) (by omega) (fun h5 e5 => ?_)
      rw [yB_dHab]
      have := ih k h5 (by omega) (e4.trans (e5.mono (fun a k w => Or.inl w) (fun _ _ w => w))) (C4.fr e5)
      rw [Bool.true_and] at this
      have ed : mayF s a k c (yD (dHab y a k)) (yL (dHab y a k)) = mayF s a k c (yD y) (yL y) := rfl
      simp (disch := omega) only [ix_lit, inB_lit, decide_true, Bool.true_or, Bool.or_true, true_and, and_true, kI_add, kI_sub, kI_mul, tn_add, Int.toNat_natCast, Int.reduceToNat, kI_le, kI_lt, kI_inj, decide_eq_true_eq, Bool.not_eq_true', decide_eq_false_iff_not, not_true_eq_false, not_false_eq_true, Classical.not_not, Bool.false_eq_true, if_true, if_false, z0, bI_k0, bI_k1, isB_b, isB_0, isB_1, kI_long, kd_stI, ln_stI, rv_stI]
      by_cases zm : mayF s a k c (yD y) (yL y) = true
      · rw [if_pos zm] at this
        rw [if_neg (fun w => w zm)]
        refine s_M_mayBy_75 ?_
        rw [kI_add, kI_add]
        exact this
      · rw [if_neg zm] at this
        rw [if_pos zm]
        refine s_M_mayBy_74 (s_M_mayBy_75 ?_)
        rw [kI_add, kI_add]
        exact this
    · have z' : set.testBit k = false := by simpa using z
      rw [z'] at ih
      simp (disch := omega) only [kd_88 F3, rv_88_1 F3, kd_89 F3, ln_89 F3, ix_lit, inB_lit, decide_true, Bool.true_or, Bool.or_true, true_and, and_true, kI_add, kI_sub, kI_mul, tn_add, Int.toNat_natCast, Int.reduceToNat, kI_le, kI_lt, kI_inj, decide_eq_true_eq, Bool.not_eq_true', decide_eq_false_iff_not, not_true_eq_false, not_false_eq_true, Classical.not_not, Bool.false_eq_true, if_true, if_false, z0, bI_k0, bI_k1, isB_b, isB_0, isB_1, kI_long, kd_stI, ln_stI, rv_stI, z1, M_isIn_c, z']
      have := ih k _ (by omega) e4 C4
      rw [Bool.false_and, if_neg (by simp)] at this
      refine s_M_mayBy_74 (s_M_mayBy_75 ?_)
      rw [kI_add, kI_add]
      exact this
def lokA (s : ST) (y : DY) (w : TW) (t a : Int) : Int := if (0 ≤ t ∧ t < 4) ∧ (0 ≤ a ∧ a < sH s) then (if seR s y (w.1 t.toNat) (w.2.1 t.toNat) (w.2.2 t.toNat) = 0 then (lokF s y a.toNat (habB s y (w.2.1 t.toNat) (w.2.2 t.toNat) a.toNat) (sN s)).1 else seR s y (w.1 t.toNat) (w.2.1 t.toNat) (w.2.2 t.toNat)) else -2
theorem M_look_g {s : ST} {y : DY} {hs : List DY} {h : AH} (B : BM s y hs h) {w : TW} (X : MTs w h) (W : WTs w) {t a : Int} (t1 : -2147483648 ≤ t) (t2 : t ≤ 2147483647) (a1 : -2147483648 ≤ a) (a2 : a ≤ 2147483647) : GI 8 m_M_look [.ref 88, .int (kI t), .int (kI a)] h (kI (lokA s y w t a)) (OutH s y hs h) := by
  have F := B.M.fix
  have e0 := f88 h
  have B0 := B.im e0
  have F0 := B0.M.fix
  have g0 : Fr IMd JM h (stI h 88 0 (kI 0)) := e0.mono (fun a k w => w.d) (fun _ _ w => w)
  have X0 := X.im e0
  have h4 := B.M.wf.2.2.2.2.2.1
  have n2 := B.M.wf.n12
  have hm := B.M.wy.m12 B.M.wf
  refine GIo (s_M_look_0 ?_)
  simp (disch := omega) only [kd_88 F, kd_88 F0, decide_true, true_and, M_noSeenBy_c B0.M X0 W]
  unfold lokA
  by_cases q : (0 ≤ t ∧ t < 4) ∧ (0 ≤ a ∧ a < sH s)
  · rw [if_pos q, if_pos q]
    obtain ⟨t, rfl⟩ := Int.eq_ofNat_of_zero_le q.1.1
    obtain ⟨a, rfl⟩ := Int.eq_ofNat_of_zero_le q.2.1
    have ha : a < 4 := by omega
    simp only [Int.toNat_natCast]
    have sb := seR_b s y (w.1 t) (w.2.1 t) (w.2.2 t)
    simp (disch := omega) only [ix_lit, inB_lit, decide_true, Bool.true_or, Bool.or_true, true_and, and_true, kI_add, kI_sub, kI_mul, tn_add, Int.toNat_natCast, Int.reduceToNat, kI_le, kI_lt, kI_inj, decide_eq_true_eq, Bool.not_eq_true', decide_eq_false_iff_not, not_true_eq_false, not_false_eq_true, Classical.not_not, Bool.false_eq_true, if_true, if_false, z0, bI_k0, bI_k1, isB_b, isB_0, isB_1, kI_long, kd_stI, ln_stI, rv_stI]
    by_cases z : seR s y (w.1 t) (w.2.1 t) (w.2.2 t) = 0
    · rw [if_pos z, if_pos z]
      have z3 := seR_0 z
      refine GI.use (M_habitsOf_g B0.M X0 W (t := t) (by omega) z3.1 z3.2.2 ha) (by omega) (fun h1 e1 => ?_)
      have hb := habB_lt s y (w.2.1 t) (w.2.2 t) a
      generalize habB s y (w.2.1 t) (w.2.2 t) a = set at hb ⊢
      suffices H : ∀ k, k ≤ sN s → ∀ (h3 : AH), Fr IMd JM h h3 → BM s y hs h3 → Safe 7 m_M_look (35, [.ref 88, unV, .int (kI a), unV, .int (kI set), .int (kI (lokF s y a set k).1), .int (kI (lokF s y a set k).2), .int (kI k), unV], [], h3) (fun x h' => Eqv x (some (.int (kI (lokF s y a set (sN s)).1))) ∧ OutH s y hs h h') by
        exact H 0 (by omega) h1 (g0.trans (e1.1.mono (fun a k w => w.d) (fun _ _ w => w))) (e1.bm B0)
      refine down_ind (sN s) ?_ ?_
      · intro h3 e3 B3
        refine s_M_look_35 ?_
        simp (disch := omega) only [kd_88 B3.M.fix, M_cells_c B3.M, ix_lit, inB_lit, decide_true, Bool.true_or, Bool.or_true, true_and, and_true, kI_add, kI_sub, kI_mul, tn_add, Int.toNat_natCast, Int.reduceToNat, kI_le, kI_lt, kI_inj, decide_eq_true_eq, Bool.not_eq_true', decide_eq_false_iff_not, not_true_eq_false, not_false_eq_true, Classical.not_not, Bool.false_eq_true, if_true, if_false, z0, bI_k0, bI_k1, isB_b, isB_0, isB_1, kI_long, kd_stI, ln_stI, rv_stI, Int.le_refl]
        exact ⟨rfl, e3, B3⟩
      · intro k hk ih h3 e3 B3
        have C3 := B3.M
        have F3 := C3.fix
        have z1 : ¬ (sN s : Int) ≤ (k : Int) := by omega
        have e : lokF s y a set (k + 1) = if set = 0 ∨ (yD y).testBit k = true then lokF s y a set k else if (lokF s y a set k).2 < lesF s y a k set then ((k : Int), lesF s y a k set) else lokF s y a set k := rfl
        rw [e] at ih
        refine s_M_look_35 ?_
        by_cases z0' : set = 0
        · have z0i : (set : Int) = 0 := by omega
          simp (disch := omega) only [kd_88 F3, M_cells_c C3, ix_lit, inB_lit, decide_true, Bool.true_or, Bool.or_true, true_and, and_true, kI_add, kI_sub, kI_mul, tn_add, Int.toNat_natCast, Int.reduceToNat, kI_le, kI_lt, kI_inj, decide_eq_true_eq, Bool.not_eq_true', decide_eq_false_iff_not, not_true_eq_false, not_false_eq_true, Classical.not_not, Bool.false_eq_true, if_true, if_false, z0, bI_k0, bI_k1, isB_b, isB_0, isB_1, kI_long, kd_stI, ln_stI, rv_stI, z1, z0i]
          have low : ∀ k, (lokF s y a set k).1 = -1 := by
            intro k
            induction k with
            | zero => rfl
            | succ k ih =>
              unfold lokF
              rw [if_pos (Or.inl z0')]
              exact ih
          rw [low, low]
          exact ⟨rfl, e3, B3⟩
        · have z0i : ¬ (set : Int) = 0 := by omega
          by_cases zd : (yD y).testBit k = true
          · simp only [if_pos (Or.inr zd : set = 0 ∨ (yD y).testBit k = true)] at ih
            simp (disch := omega) only [kd_88 F3, rv_88_1 F3, kd_89 F3, ln_89 F3, M_cells_c C3, ix_lit, inB_lit, decide_true, Bool.true_or, Bool.or_true, true_and, and_true, kI_add, kI_sub, kI_mul, tn_add, Int.toNat_natCast, Int.reduceToNat, kI_le, kI_lt, kI_inj, decide_eq_true_eq, Bool.not_eq_true', decide_eq_false_iff_not, not_true_eq_false, not_false_eq_true, Classical.not_not, Bool.false_eq_true, if_true, if_false, z0, bI_k0, bI_k1, isB_b, isB_0, isB_1, kI_long, kd_stI, ln_stI, rv_stI, z1, z0i, C3.i22, M_isIn_c, zd]
            exact ih h3 e3 B3
          · have zd' : (yD y).testBit k = false := by simpa using zd
            simp only [if_neg (fun z => z.elim z0' zd : ¬ (set = 0 ∨ (yD y).testBit k = true))] at ih
            simp (disch := omega) only [kd_88 F3, rv_88_1 F3, kd_89 F3, ln_89 F3, M_cells_c C3, ix_lit, inB_lit, decide_true, Bool.true_or, Bool.or_true, true_and, and_true, kI_add, kI_sub, kI_mul, tn_add, Int.toNat_natCast, Int.reduceToNat, kI_le, kI_lt, kI_inj, decide_eq_true_eq, Bool.not_eq_true', decide_eq_false_iff_not, not_true_eq_false, not_false_eq_true, Classical.not_not, Bool.false_eq_true, if_true, if_false, z0, bI_k0, bI_k1, isB_b, isB_0, isB_1, kI_long, kd_stI, ln_stI, rv_stI, z1, z0i, C3.i22, M_isIn_c, zd']
            refine GI.use (M_mayBy_g C3 ha hk hb) (by omega) (fun h5 e5 => ?_)
            have l1 := lesF_b s y a k set
            have l2 := lokF_b s y a set k
            have c1 : mayN s y a k set ≤ 10 := cnt_le _ _
            have c2 := pop_le set
            have B5 := e5.bm B3
            have := ih h5 (e3.trans (e5.1.mono (fun a k w => w.d) (fun _ _ w => w))) B5
            have fin : ∀ x : Int, x = lesF s y a k set → Safe 7 m_M_look (105, [.ref 88, unV, .int (kI a), unV, .int (kI set), .int (kI (lokF s y a set k).1), .int (kI (lokF s y a set k).2), .int (kI k), unV], [.int (kI x)], h5) (fun x h' => Eqv x (some (.int (kI (lokF s y a set (sN s)).1))) ∧ OutH s y hs h h') := by
              intro x hx
              subst hx
              refine s_M_look_105 ?_
              simp (disch := omega) only [ix_lit, inB_lit, decide_true, Bool.true_or, Bool.or_true, true_and, and_true, kI_add, kI_sub, kI_mul, tn_add, Int.toNat_natCast, Int.reduceToNat, kI_le, kI_lt, kI_inj, decide_eq_true_eq, Bool.not_eq_true', decide_eq_false_iff_not, not_true_eq_false, not_false_eq_true, Classical.not_not, Bool.false_eq_true, if_true, if_false, z0, bI_k0, bI_k1, isB_b, isB_0, isB_1, kI_long, kd_stI, ln_stI, rv_stI]
              by_cases zl : (lokF s y a set k).2 < lesF s y a k set
              · rw [if_pos zl] at this
                rw [if_pos zl]
                exact this
              · rw [if_neg zl] at this
                rw [if_neg zl]
                exact this
            simp (disch := omega) only [M_bits_c, ix_lit, inB_lit, decide_true, Bool.true_or, Bool.or_true, true_and, and_true, kI_add, kI_sub, kI_mul, tn_add, Int.toNat_natCast, Int.reduceToNat, kI_le, kI_lt, kI_inj, decide_eq_true_eq, Bool.not_eq_true', decide_eq_false_iff_not, not_true_eq_false, not_false_eq_true, Classical.not_not, Bool.false_eq_true, if_true, if_false, z0, bI_k0, bI_k1, isB_b, isB_0, isB_1, kI_long, kd_stI, ln_stI, rv_stI]
            unfold lesF at fin
            by_cases zb : (pop set : Int) - mayN s y a k set ≤ mayN s y a k set
            · rw [if_pos zb]
              refine fin _ ?_
              split <;> omega
            · rw [if_neg zb]
              refine fin _ ?_
              rw [if_neg (by omega)]
    · rw [if_neg z, if_neg z]
      exact ⟨rfl, g0, B0⟩
  · rw [if_neg q, if_neg q]
    simp (disch := omega) only [ix_lit, inB_lit, decide_true, Bool.true_or, Bool.or_true, true_and, and_true, kI_add, kI_sub, kI_mul, tn_add, Int.toNat_natCast, Int.reduceToNat, kI_le, kI_lt, kI_inj, decide_eq_true_eq, Bool.not_eq_true', decide_eq_false_iff_not, not_true_eq_false, not_false_eq_true, Classical.not_not, Bool.false_eq_true, if_true, if_false, z0, bI_k0, bI_k1, isB_b, isB_0, isB_1, kI_long, kd_stI, ln_stI, rv_stI, Int.reduceEq]
    exact ⟨rfl, g0, B0⟩
theorem X_look_g {T : Nat → Nat} {s : ST} {p : Nat} {y : DY} {v : Int} {hs : List DY} {nx : Nat} {h : AH} (B : BX T s p y v hs nx h) {w : TW} (X : XTs w h) (W : WTs w) {t a : Int} (t1 : -2147483648 ≤ t) (t2 : t ≤ 2147483647) (a1 : -2147483648 ≤ a) (a2 : a ≤ 2147483647) : GI 8 m_X_look [.ref 1, .int (kI t), .int (kI a)] h (kI (lokA s y w t a)) (FS T h) := by
  have F := B.F
  have h4 := B.S.wf.2.2.2.2.2.1
  refine GIo (s_X_look_0 ?_)
  unfold lokA
  by_cases q : 0 ≤ t ∧ t < 4
  · have p1 : (0 ≤ t ∧ t < 4) = True := eq_true q
    by_cases q2 : 0 ≤ a ∧ a < sH s
    · rw [if_pos ⟨q, q2⟩]
      have p2 : (0 ≤ a ∧ a < sH s) = True := eq_true q2
      obtain ⟨t, rfl⟩ := Int.eq_ofNat_of_zero_le q.1
      obtain ⟨a, rfl⟩ := Int.eq_ofNat_of_zero_le q2.1
      have ht : t < 4 := by omega
      have Tf := tr_fix F ht
      simp only [Int.toNat_natCast]
      have sb := seR_b s y (w.1 t) (w.2.1 t) (w.2.2 t)
      simp (disch := omega) only [kd_1 F, B.r, B.S.k, rv_1_11 F, kd_73 F, ln_73 F, Tf.1, rv_1_10 F, kd_67 F, rv_1_3 F, ix_lit, inB_lit, decide_true, Bool.true_or, Bool.or_true, true_and, and_true, kI_add, kI_sub, kI_mul, tn_add, Int.toNat_natCast, Int.reduceToNat, kI_le, kI_lt, kI_inj, decide_eq_true_eq, Bool.not_eq_true', decide_eq_false_iff_not, not_true_eq_false, not_false_eq_true, Classical.not_not, Bool.false_eq_true, if_true, if_false, z0, bI_k0, bI_k1, isB_b, isB_0, isB_1, kI_long, kd_stI, ln_stI, rv_stI, X_isTray_c, p1, Sh_hasHand_c B.S, p2, Nat.reduceLeDiff, Se_refusal_c B X W ht]
      by_cases z : seR s y (w.1 t) (w.2.1 t) (w.2.2 t) = 0
      · rw [if_pos z, if_pos z]
        have z3 := seR_0 z
        exact GI.use (Se_telling_g B X W ht z3.1 z3.2.2 (by omega)) (by omega) (fun h1 e1 => ⟨rfl, e1⟩)
      · rw [if_neg z, if_neg z]
        exact ⟨rfl, Fr_rfl _ _ _⟩
    · rw [if_neg (fun w => q2 w.2)]
      simp (disch := omega) only [kd_1 F, B.r, B.S.k, ix_lit, inB_lit, decide_true, Bool.true_or, Bool.or_true, true_and, and_true, kI_add, kI_sub, kI_mul, tn_add, Int.toNat_natCast, Int.reduceToNat, kI_le, kI_lt, kI_inj, decide_eq_true_eq, Bool.not_eq_true', decide_eq_false_iff_not, not_true_eq_false, not_false_eq_true, Classical.not_not, Bool.false_eq_true, if_true, if_false, z0, bI_k0, bI_k1, isB_b, isB_0, isB_1, kI_long, kd_stI, ln_stI, rv_stI, X_isTray_c, p1, Sh_hasHand_c B.S, eq_false q2]
      exact ⟨rfl, Fr_rfl _ _ _⟩
  · rw [if_neg (fun w => q w.1)]
    simp (disch := omega) only [ix_lit, inB_lit, decide_true, Bool.true_or, Bool.or_true, true_and, and_true, kI_add, kI_sub, kI_mul, tn_add, Int.toNat_natCast, Int.reduceToNat, kI_le, kI_lt, kI_inj, decide_eq_true_eq, Bool.not_eq_true', decide_eq_false_iff_not, not_true_eq_false, not_false_eq_true, Classical.not_not, Bool.false_eq_true, if_true, if_false, z0, bI_k0, bI_k1, isB_b, isB_0, isB_1, kI_long, kd_stI, ln_stI, rv_stI, X_isTray_c, eq_false q]
    exact ⟨rfl, Fr_rfl _ _ _⟩
/-! who carried on -/
def ablF (s : ST) (y : DY) (f : Nat → Int) (i : Nat) : Nat := bitsB (fun hd => mayE s y f hd (yB y hd) i) (sH s)
theorem ablF_lt {s : ST} (w : WFS s) (y : DY) (f : Nat → Int) (i : Nat) : ablF s y f i < 16 := by
  have h1 := bitsB_lt (fun hd => mayE s y f hd (yB y hd) i) (sH s)
  have h2 : 2 ^ sH s ≤ 2 ^ 4 := Nat.pow_le_pow_right (by omega) w.2.2.2.2.2.1
  unfold ablF
  omega
theorem Se_findAble_g {T : Nat → Nat} {s : ST} {p : Nat} {y : DY} {v : Int} {hs : List DY} {nx : Nat} {h : AH} (B : BX T s p y v hs nx h) {w : TW} (X : XTs w h) (W : WTs w) {t : Nat} (ht : t < 4) (q3 : w.1 t ≠ -1) (n12 : w.2.1 t ≤ 12) (ok : ∀ i, i < w.2.1 t → okB s (w.2.2 t) (yD y) i = true) : GV 5 m_Se_findAble [.ref 67, .ref p, .ref 8, .ref (74 + 2 * t)] h (fun h' => FS T h h' ∧ ∀ i, i < w.2.1 t → ivA h' 70 i = kI (ablF s y (w.2.2 t) i)) := by
  have F := B.F
  have n2 := B.S.wf.n12
  have h4 := B.S.wf.2.2.2.2.2.1
  have Wt := W t ht
  refine GVo (s_Se_findAble_0 ?_)
  simp (disch := omega) only [kd_67 F, rv_67_0 F, kd_68 F, decide_true, true_and]
  refine GV.use (Pg_copy_g F PG68 PG8 (by omega) B.P (kI_of _)) (by omega) (fun h1' e1 => ?_)
  suffices H : ∀ k, k ≤ w.2.1 t → ∀ (v' : Int) (h3 : AH), FS T h h3 → XP (ySe y (w.2.2 t) k) v' 68 h3 → (∀ i, i < k → ivA h3 70 i = kI (ablF s y (w.2.2 t) i)) → Safe 4 m_Se_findAble (11, [.ref 67, .ref p, .ref 8, .ref (74 + 2 * t), .int (kI k), unV, unV], [], h3) (fun x h' => Eqv x none ∧ FS T h h' ∧ ∀ i, i < w.2.1 t → ivA h' 70 i = kI (ablF s y (w.2.2 t) i)) by
    exact H 0 (by omega) _ h1' (FZ.fs e1.1) e1.2 (fun i hi => by omega)
  refine down_ind (w.2.1 t) ?_ ?_
  · intro v' h3 e3 P3 H
    have F3 := e3.fix F
    have X3 := X.fs B.t e3 t ht
    have Tf := tr_fix F3 ht
    refine s_Se_findAble_11 ?_
    simp (disch := omega) only [Tf.2.1, X3.sz q3, ix_lit, inB_lit, decide_true, Bool.true_or, Bool.or_true, true_and, and_true, kI_add, kI_sub, kI_mul, tn_add, Int.toNat_natCast, Int.reduceToNat, kI_le, kI_lt, kI_inj, decide_eq_true_eq, Bool.not_eq_true', decide_eq_false_iff_not, not_true_eq_false, not_false_eq_true, Classical.not_not, Bool.false_eq_true, if_true, if_false, z0, bI_k0, bI_k1, isB_b, isB_0, isB_1, kI_long, kd_stI, ln_stI, rv_stI, Int.le_refl]
    exact ⟨rfl, e3, H⟩
  · intro k hk ih v' h3 e3 P3 H
    have B3 := B.fs e3
    have F3 := B3.F
    have X3 := X.fs B.t e3 t ht
    have Tf := tr_fix F3 ht
    have z1 : ¬ (w.2.1 t : Int) ≤ (k : Int) := by omega
    have z2 : ¬ (12 : Int) ≤ (k : Int) := by omega
    have o := okB_iff.mp (ok k hk)
    have okk := fun i (hi : i < k) => ok i (by omega)
    have hm : pD (w.2.2 t) (yD y) k < 4096 := Nat.lt_of_lt_of_le (pD_lt B.wy.1 okk) (Nat.pow_le_pow_right (n := 2) (by omega) n2)
    have hl := pL_ok B.wy.2.1 okk
    have ej : (kJ (w.2.2 t k)).toInt32 = kI ((w.2.2 t k).toNat : Int) := by rw [kJ_int (by omega) (by omega)]; congr 1; omega
    refine s_Se_findAble_11 ?_
    simp (disch := omega) only [Tf.2.1, X3.sz q3, ix_lit, inB_lit, decide_true, Bool.true_or, Bool.or_true, true_and, and_true, kI_add, kI_sub, kI_mul, tn_add, Int.toNat_natCast, Int.reduceToNat, kI_le, kI_lt, kI_inj, decide_eq_true_eq, Bool.not_eq_true', decide_eq_false_iff_not, not_true_eq_false, not_false_eq_true, Classical.not_not, Bool.false_eq_true, if_true, if_false, z0, bI_k0, bI_k1, isB_b, isB_0, isB_1, kI_long, kd_stI, ln_stI, rv_stI, z1, z2, Tr_at_c ht F3 Wt X3 q3, kd_67 F3, rv_67_1 F3, kd_70 F3, ln_70 F3, isA, Nat.reduceLeDiff, Bool.and_true, Int.cast_ofNat_Int, ej]
    suffices H2 : ∀ j, j ≤ sH s → ∀ (h5 : AH), FS T h h5 → XP (ySe y (w.2.2 t) k) v' 68 h5 → (∀ i, i < k → ivA h5 70 i = kI (ablF s y (w.2.2 t) i)) → ivA h5 70 k = kI (bitsB (fun hd => mayE s y (w.2.2 t) hd (yB y hd) k) j : Nat) → Safe 4 m_Se_findAble (50, [.ref 67, .ref p, .ref 8, .ref (74 + 2 * t), .int (kI k), .int (kI ((w.2.2 t k).toNat : Int)), .int (kI j)], [], h5) (fun x h' => Eqv x none ∧ FS T h h' ∧ ∀ i, i < w.2.1 t → ivA h' 70 i = kI (ablF s y (w.2.2 t) i)) by
      have f0 : FS T h3 (stI h3 70 k (kI 0)) := (Fr_rfl (fun a _ => T a = 1 ∨ (67 ≤ a ∧ a ≤ 72)) JM h3).stI (Or.inr (by omega)) _
      refine H2 0 (by omega) _ (e3.trans f0) (P3.fr ((Fr_rfl (fun a _ => a = 70) JM h3).stI rfl _) (fun k => ⟨by omega, by omega⟩)) (fun i hi => ?_) ?_
      · rw [iv_stI, if_neg (by omega)]; exact H i hi
      · rw [iv_stI, if_pos ⟨rfl, rfl⟩]; rfl
    refine down_ind (sH s) ?_ ?_
    · intro h5 e5 P5 H5 K5
      have B5 := B.fs e5
      have F5 := B5.F
      refine s_Se_findAble_50 ?_
      simp (disch := omega) only [B5.S.k, B5.S.i4, ix_lit, inB_lit, decide_true, Bool.true_or, Bool.or_true, true_and, and_true, kI_add, kI_sub, kI_mul, tn_add, Int.toNat_natCast, Int.reduceToNat, kI_le, kI_lt, kI_inj, decide_eq_true_eq, Bool.not_eq_true', decide_eq_false_iff_not, not_true_eq_false, not_false_eq_true, Classical.not_not, Bool.false_eq_true, if_true, if_false, z0, bI_k0, bI_k1, isB_b, isB_0, isB_1, kI_long, kd_stI, ln_stI, rv_stI, Int.le_refl, kd_67 F5, rv_67_0 F5, kd_68 F5]
      refine GV.use (Pg_mark_g F5 PG68 P5 (c := (w.2.2 t k).toNat) (by omega)) (by omega) (fun h6 e6 => ?_)
      refine ih _ h6 (e5.trans (FZ.fs e6.1)) e6.2 (fun i hi => ?_)
      rw [e6.1.2.2.2.2.2.1 _ _ (by omega)]
      by_cases zi : i = k
      · rw [zi]; exact K5
      · exact H5 i (by omega)
    · intro j hj ih2 h5 e5 P5 H5 K5
      have B5 := B.fs e5
      have F5 := B5.F
      have z3 : ¬ (sH s : Int) ≤ (j : Int) := by omega
      have P0 : ivA h5 68 0 = kI (pD (w.2.2 t) (yD y) k : Nat) := P5.i0
      have P1 : ivA h5 68 1 = kI (lx (pL (w.2.2 t) (yL y) k)) := P5.i1
      have b9 := B.wy.2.2.2.2 j
      refine s_Se_findAble_50 ?_
      simp (disch := omega) only [B5.S.k, B5.S.i4, ix_lit, inB_lit, decide_true, Bool.true_or, Bool.or_true, true_and, and_true, kI_add, kI_sub, kI_mul, tn_add, Int.toNat_natCast, Int.reduceToNat, kI_le, kI_lt, kI_inj, decide_eq_true_eq, Bool.not_eq_true', decide_eq_false_iff_not, not_true_eq_false, not_false_eq_true, Classical.not_not, Bool.false_eq_true, if_true, if_false, z0, bI_k0, bI_k1, isB_b, isB_0, isB_1, kI_long, kd_stI, ln_stI, rv_stI, z3, kd_8 F5, kd_67 F5, rv_67_0 F5, kd_68 F5, Pg_habitOf_c F5 PG8 B5.P, P0, P1]
      refine GI.use (Sh_allows_g B5.S (by omega) (by omega) (by omega) hm hl) (by omega) (fun h6 e6 => ?_)
      have F6 := e6.fix F5
      have t70 := B.t.two (a := 70) (by omega) (by omega)
      have K6 : ivA h6 70 k = kI (bitsB (fun hd => mayE s y (w.2.2 t) hd (yB y hd) k) j : Nat) := by rw [e6.2.2.2.2.2.1 _ _ (by omega)]; exact K5
      have H6 : ∀ i, i < k → ivA h6 70 i = kI (ablF s y (w.2.2 t) i) := fun i hi => by rw [e6.2.2.2.2.2.1 _ _ (by omega)]; exact H5 i hi
      have P6 := P5.fg B.t PG68 e6
      simp (disch := omega) only [ix_lit, inB_lit, decide_true, Bool.true_or, Bool.or_true, true_and, and_true, kI_add, kI_sub, kI_mul, tn_add, Int.toNat_natCast, Int.reduceToNat, kI_le, kI_lt, kI_inj, decide_eq_true_eq, Bool.not_eq_true', decide_eq_false_iff_not, not_true_eq_false, not_false_eq_true, Classical.not_not, Bool.false_eq_true, if_true, if_false, z0, bI_k0, bI_k1, isB_b, isB_0, isB_1, kI_long, kd_stI, ln_stI, rv_stI, kd_67 F6, rv_67_1 F6, kd_70 F6, ln_70 F6, K6, kI_shl1, kI_or]
      rw [bitsB_s] at ih2
      by_cases z : mayF s j (yB y j) (w.2.2 t k).toNat (pD (w.2.2 t) (yD y) k) (pL (w.2.2 t) (yL y) k) = true
      · rw [if_neg (fun w => w z)]
        have ze : mayE s y (w.2.2 t) j (yB y j) k = true := z
        rw [if_pos ze] at ih2
        have f6 : FS T h6 (stI h6 70 k (kI ((bitsB (fun hd => mayE s y (w.2.2 t) hd (yB y hd) k) j ||| 2 ^ j : Nat) : Int))) := (Fr_rfl (fun a _ => T a = 1 ∨ (67 ≤ a ∧ a ≤ 72)) JM h6).stI (Or.inr (by omega)) _
        refine ih2 _ (e5.trans (e6.fs.trans f6)) (P6.fr ((Fr_rfl (fun a _ => a = 70) JM h6).stI rfl _) (fun k => ⟨by omega, by omega⟩)) (fun i hi => ?_) ?_
        · rw [iv_stI, if_neg (by omega)]; exact H6 i hi
        · rw [iv_stI, if_pos ⟨rfl, rfl⟩]
      · rw [if_pos z]
        have ze : ¬ mayE s y (w.2.2 t) j (yB y j) k = true := z
        rw [if_neg ze, Nat.or_zero] at ih2
        exact ih2 h6 (e5.trans e6.fs) P6 H6 K6
def crF (s : ST) (y : DY) (f : Nat → Int) : Nat → Int
  | 0 => 1
  | k + 1 => crF s y f k * pop (ablF s y f k)
theorem Se_authors_g {T : Nat → Nat} {s : ST} {p : Nat} {y : DY} {v : Int} {hs : List DY} {nx : Nat} {h : AH} (B : BX T s p y v hs nx h) {w : TW} (X : XTs w h) (W : WTs w) {t : Nat} (ht : t < 4) (q3 : w.1 t ≠ -1) (n12 : w.2.1 t ≤ 12) (ok : ∀ i, i < w.2.1 t → okB s (w.2.2 t) (yD y) i = true) : GJ 6 m_Se_authors [.ref 67, .ref p, .ref 8, .ref (74 + 2 * t)] h (kJ (crF s y (w.2.2 t) (w.2.1 t))) (FS T h) := by
  refine GJo (s_Se_authors_0 ?_)
  refine ⟨by rw [kd_67 B.F]; rfl, ?_⟩
  refine GV.use (Se_findAble_g B X W ht q3 n12 ok) (by omega) (fun h1 e1 => ?_)
  have F1 := e1.1.fix B.F
  have X1 := X.fs B.t e1.1 t ht
  have Tf := tr_fix F1 ht
  suffices H : ∀ k, k ≤ w.2.1 t → Safe 5 m_Se_authors (13, [.ref 67, unV, unV, .ref (74 + 2 * t), .long (kJ (crF s y (w.2.2 t) k)), unV, .int (kI k)], [], h1) (fun x h' => Eqv x (some (.long (kJ (crF s y (w.2.2 t) (w.2.1 t))))) ∧ FS T h h') by
    exact H 0 (by omega)
  refine down_ind (w.2.1 t) ?_ ?_
  · refine s_Se_authors_13 ?_
    simp (disch := omega) only [Tf.2.1, X1.sz q3, ix_lit, inB_lit, decide_true, Bool.true_or, Bool.or_true, true_and, and_true, kI_add, kI_sub, kI_mul, tn_add, Int.toNat_natCast, Int.reduceToNat, kI_le, kI_lt, kI_inj, decide_eq_true_eq, Bool.not_eq_true', decide_eq_false_iff_not, not_true_eq_false, not_false_eq_true, Classical.not_not, Bool.false_eq_true, if_true, if_false, z0, bI_k0, bI_k1, isB_b, isB_0, isB_1, kI_long, kd_stI, ln_stI, rv_stI, Int.le_refl]
    exact ⟨rfl, e1.1⟩
  · intro k hk ih
    have z1 : ¬ (w.2.1 t : Int) ≤ (k : Int) := by omega
    have z2 : ¬ (12 : Int) ≤ (k : Int) := by omega
    have al := ablF_lt B.S.wf y (w.2.2 t) k
    have pl := pop_le (ablF s y (w.2.2 t) k)
    have ek := e1.2 k hk
    refine s_Se_authors_13 ?_
    simp (disch := omega) only [Tf.2.1, X1.sz q3, ix_lit, inB_lit, decide_true, Bool.true_or, Bool.or_true, true_and, and_true, kI_add, kI_sub, kI_mul, tn_add, Int.toNat_natCast, Int.reduceToNat, kI_le, kI_lt, kI_inj, decide_eq_true_eq, Bool.not_eq_true', decide_eq_false_iff_not, not_true_eq_false, not_false_eq_true, Classical.not_not, Bool.false_eq_true, if_true, if_false, z0, bI_k0, bI_k1, isB_b, isB_0, isB_1, kI_long, kd_stI, ln_stI, rv_stI, z1, z2, kd_67 F1, rv_67_1 F1, kd_70 F1, ln_70 F1, isA, Nat.reduceLeDiff, Bool.and_true, Int.cast_ofNat_Int, ek, In_bitCount_c, kJ_mul]
    exact ih
def carA (s : ST) (y : DY) (w : TW) (t : Int) : Int := if 0 ≤ t ∧ t < 4 then (if seR s y (w.1 t.toNat) (w.2.1 t.toNat) (w.2.2 t.toNat) = 0 then crF s y (w.2.2 t.toNat) (w.2.1 t.toNat) else seR s y (w.1 t.toNat) (w.2.1 t.toNat) (w.2.2 t.toNat)) else -2
theorem X_carried_g {T : Nat → Nat} {s : ST} {p : Nat} {y : DY} {v : Int} {hs : List DY} {nx : Nat} {h : AH} (B : BX T s p y v hs nx h) {w : TW} (X : XTs w h) (W : WTs w) {t : Int} (t1 : -2147483648 ≤ t) (t2 : t ≤ 2147483647) : GJ 7 m_X_carried [.ref 1, .int (kI t)] h (kJ (carA s y w t)) (FS T h) := by
  have F := B.F
  refine GJo (s_X_carried_0 ?_)
  unfold carA
  by_cases q : 0 ≤ t ∧ t < 4
  · have p1 : (0 ≤ t ∧ t < 4) = True := eq_true q
    rw [if_pos q]
    obtain ⟨t, rfl⟩ := Int.eq_ofNat_of_zero_le q.1
    have ht : t < 4 := by omega
    have Tf := tr_fix F ht
    simp only [Int.toNat_natCast]
    have sb := seR_b s y (w.1 t) (w.2.1 t) (w.2.2 t)
    simp (disch := omega) only [kd_1 F, B.r, B.S.k, rv_1_11 F, kd_73 F, ln_73 F, Tf.1, rv_1_10 F, kd_67 F, rv_1_3 F, ix_lit, inB_lit, decide_true, Bool.true_or, Bool.or_true, true_and, and_true, kI_add, kI_sub, kI_mul, tn_add, Int.toNat_natCast, Int.reduceToNat, kI_le, kI_lt, kI_inj, decide_eq_true_eq, Bool.not_eq_true', decide_eq_false_iff_not, not_true_eq_false, not_false_eq_true, Classical.not_not, Bool.false_eq_true, if_true, if_false, z0, bI_k0, bI_k1, isB_b, isB_0, isB_1, kI_long, kd_stI, ln_stI, rv_stI, X_isTray_c, p1, Nat.reduceLeDiff, Se_refusal_c B X W ht]
    by_cases z : seR s y (w.1 t) (w.2.1 t) (w.2.2 t) = 0
    · rw [if_pos z, if_pos z]
      have z3 := seR_0 z
      exact GJ.use (Se_authors_g B X W ht z3.1 z3.2.1.2 z3.2.2) (by omega) (fun h1 e1 => ⟨rfl, e1⟩)
    · rw [if_neg z, if_neg z]
      exact ⟨rfl, Fr_rfl _ _ _⟩
  · rw [if_neg q]
    simp (disch := omega) only [ix_lit, inB_lit, decide_true, Bool.true_or, Bool.or_true, true_and, and_true, kI_add, kI_sub, kI_mul, tn_add, Int.toNat_natCast, Int.reduceToNat, kI_le, kI_lt, kI_inj, decide_eq_true_eq, Bool.not_eq_true', decide_eq_false_iff_not, not_true_eq_false, not_false_eq_true, Classical.not_not, Bool.false_eq_true, if_true, if_false, z0, bI_k0, bI_k1, isB_b, isB_0, isB_1, kI_long, kd_stI, ln_stI, rv_stI, X_isTray_c, eq_false q]
    exact ⟨rfl, Fr_rfl _ _ _⟩
theorem M_handsAs_g {s : ST} {y : DY} {h : AH} (C : MC s y h) {w : TW} (X : MTs w h) (W : WTs w) {t : Nat} (ht : t < 4) (q3 : w.1 t ≠ -1) (ok : ∀ i, i < w.2.1 t → okB s (w.2.2 t) (yD y) i = true) {i : Nat} (hi : i < w.2.1 t) : GI 7 m_M_handsAs [.ref 88, .int (kI t), .int (kI i)] h (kI (ablF s y (w.2.2 t) i)) (Fr IM JM h) := by
  have h4 := C.wf.2.2.2.2.2.1
  refine GIo (s_M_handsAs_0 ?_)
  suffices H : ∀ k, k ≤ sH s → ∀ h1, Fr IM JM h h1 → Safe 6 m_M_handsAs (5, [.ref 88, .int (kI t), .int (kI i), .int (kI (bitsB (fun hd => mayE s y (w.2.2 t) hd (yB y hd) i) k : Nat)), .int (kI k)], [], h1) (fun x h' => Eqv x (some (.int (kI (ablF s y (w.2.2 t) i)))) ∧ Fr IM JM h h') by
    exact H 0 (by omega) h (Fr_rfl _ _ _)
  refine down_ind (sH s) ?_ ?_
  · intro h1 e1
    have C1 := C.fr e1
    have F1 := C1.fix
    refine s_M_handsAs_5 ?_
    simp (disch := omega) only [kd_88 F1, rv_88_1 F1, kd_89 F1, ln_89 F1, ix_lit, inB_lit, decide_true, Bool.true_or, Bool.or_true, true_and, and_true, kI_add, kI_sub, kI_mul, tn_add, Int.toNat_natCast, Int.reduceToNat, kI_le, kI_lt, kI_inj, decide_eq_true_eq, Bool.not_eq_true', decide_eq_false_iff_not, not_true_eq_false, not_false_eq_true, Classical.not_not, Bool.false_eq_true, if_true, if_false, z0, bI_k0, bI_k1, isB_b, isB_0, isB_1, kI_long, kd_stI, ln_stI, rv_stI, C1.i3, Int.le_refl]
    exact ⟨rfl, e1⟩
  · intro k hk ih h1 e1
    have C1 := C.fr e1
    have F1 := C1.fix
    have z1 : ¬ (sH s : Int) ≤ (k : Int) := by omega
    refine s_M_handsAs_5 ?_
    simp (disch := omega) only [kd_88 F1, rv_88_1 F1, kd_89 F1, ln_89 F1, ix_lit, inB_lit, decide_true, Bool.true_or, Bool.or_true, true_and, and_true, kI_add, kI_sub, kI_mul, tn_add, Int.toNat_natCast, Int.reduceToNat, kI_le, kI_lt, kI_inj, decide_eq_true_eq, Bool.not_eq_true', decide_eq_false_iff_not, not_true_eq_false, not_false_eq_true, Classical.not_not, Bool.false_eq_true, if_true, if_false, z0, bI_k0, bI_k1, isB_b, isB_0, isB_1, kI_long, kd_stI, ln_stI, rv_stI, C1.i3, z1]
    refine GI.use (M_mayAs_g C1 (X.im e1) W ht q3 ok (by omega) hi) (by omega) (fun h2 e2 => ?_)
    have := ih h2 (e1.trans e2)
    rw [bitsB_s] at this
    simp (disch := omega) only [ix_lit, inB_lit, decide_true, Bool.true_or, Bool.or_true, true_and, and_true, kI_add, kI_sub, kI_mul, tn_add, Int.toNat_natCast, Int.reduceToNat, kI_le, kI_lt, kI_inj, decide_eq_true_eq, Bool.not_eq_true', decide_eq_false_iff_not, not_true_eq_false, not_false_eq_true, Classical.not_not, Bool.false_eq_true, if_true, if_false, z0, bI_k0, bI_k1, isB_b, isB_0, isB_1, kI_long, kd_stI, ln_stI, rv_stI, kI_shl1]
    by_cases q : mayE s y (w.2.2 t) k (yB y k) i = true
    · rw [if_pos q] at this
      rw [if_neg (fun w => w q)]
      refine s_M_handsAs_36 ?_
      rw [kI_or, kI_add]
      exact this
    · rw [if_neg q] at this
      rw [if_pos q]
      refine s_M_handsAs_36 ?_
      rw [show kI 0 = kI ((0 : Nat) : Int) from rfl, kI_or, kI_add]
      exact this
theorem M_carried_g {s : ST} {y : DY} {hs : List DY} {h : AH} (B : BM s y hs h) {w : TW} (X : MTs w h) (W : WTs w) {t : Int} (t1 : -2147483648 ≤ t) (t2 : t ≤ 2147483647) : GJ 8 m_M_carried [.ref 88, .int (kI t)] h (kJ (carA s y w t)) (Fr IM JM h) := by
  have F := B.M.fix
  have e0 := f88 h
  have C0 := B.M.fr e0
  have F0 := C0.fix
  have X0 := X.im e0
  refine GJo (s_M_carried_0 ?_)
  simp (disch := omega) only [kd_88 F, kd_88 F0, decide_true, true_and, M_noSeen_c C0 X0 W]
  unfold carA
  by_cases q : 0 ≤ t ∧ t < 4
  · rw [if_pos q, if_pos q]
    obtain ⟨t, rfl⟩ := Int.eq_ofNat_of_zero_le q.1
    have ht : t < 4 := by omega
    simp only [Int.toNat_natCast]
    have sb := seR_b s y (w.1 t) (w.2.1 t) (w.2.2 t)
    simp (disch := omega) only [ix_lit, inB_lit, decide_true, Bool.true_or, Bool.or_true, true_and, and_true, kI_add, kI_sub, kI_mul, tn_add, Int.toNat_natCast, Int.reduceToNat, kI_le, kI_lt, kI_inj, decide_eq_true_eq, Bool.not_eq_true', decide_eq_false_iff_not, not_true_eq_false, not_false_eq_true, Classical.not_not, Bool.false_eq_true, if_true, if_false, z0, bI_k0, bI_k1, isB_b, isB_0, isB_1, kI_long, kd_stI, ln_stI, rv_stI]
    by_cases z : seR s y (w.1 t) (w.2.1 t) (w.2.2 t) = 0
    · rw [if_pos z, if_pos z]
      have z3 := seR_0 z
      suffices H : ∀ k, k ≤ w.2.1 t → ∀ h1, Fr IM JM h h1 → Safe 7 m_M_carried (23, [.ref 88, .int (kI t), unV, .long (kJ (crF s y (w.2.2 t) k)), unV, .int (kI k)], [], h1) (fun x h' => Eqv x (some (.long (kJ (crF s y (w.2.2 t) (w.2.1 t))))) ∧ Fr IM JM h h') by
        exact H 0 (by omega) _ e0
      refine down_ind (w.2.1 t) ?_ ?_
      · intro h1 e1
        have F1 := e1.fix F
        have xn := (X.im e1 t ht).n z3.1
        refine s_M_carried_23 ?_
        simp (disch := omega) only [kd_88 F1, rv_88_29 F1, kd_104 F1, ln_104 F1, xn, ix_lit, inB_lit, decide_true, Bool.true_or, Bool.or_true, true_and, and_true, kI_add, kI_sub, kI_mul, tn_add, Int.toNat_natCast, Int.reduceToNat, kI_le, kI_lt, kI_inj, decide_eq_true_eq, Bool.not_eq_true', decide_eq_false_iff_not, not_true_eq_false, not_false_eq_true, Classical.not_not, Bool.false_eq_true, if_true, if_false, z0, bI_k0, bI_k1, isB_b, isB_0, isB_1, kI_long, kd_stI, ln_stI, rv_stI, Int.le_refl]
        exact ⟨rfl, e1⟩
      · intro k hk ih h1 e1
        have C1 := B.M.fr e1
        have F1 := C1.fix
        have X1 := X.im e1
        have xn := (X1 t ht).n z3.1
        have z1 : ¬ (w.2.1 t : Int) ≤ (k : Int) := by omega
        have al := ablF_lt C1.wf y (w.2.2 t) k
        have pl := pop_le (ablF s y (w.2.2 t) k)
        refine s_M_carried_23 ?_
        simp (disch := omega) only [kd_88 F1, rv_88_29 F1, kd_104 F1, ln_104 F1, xn, ix_lit, inB_lit, decide_true, Bool.true_or, Bool.or_true, true_and, and_true, kI_add, kI_sub, kI_mul, tn_add, Int.toNat_natCast, Int.reduceToNat, kI_le, kI_lt, kI_inj, decide_eq_true_eq, Bool.not_eq_true', decide_eq_false_iff_not, not_true_eq_false, not_false_eq_true, Classical.not_not, Bool.false_eq_true, if_true, if_false, z0, bI_k0, bI_k1, isB_b, isB_0, isB_1, kI_long, kd_stI, ln_stI, rv_stI, z1]
        refine GI.use (M_handsAs_g C1 X1 W ht z3.1 z3.2.2 hk) (by omega) (fun h2 e2 => ?_)
        simp (disch := omega) only [M_bits_c, kI_long, kJ_mul]
        exact ih h2 (e1.trans e2)
    · rw [if_neg z, if_neg z]
      exact ⟨rfl, e0⟩
  · rw [if_neg q, if_neg q]
    simp (disch := omega) only [ix_lit, inB_lit, decide_true, Bool.true_or, Bool.or_true, true_and, and_true, kI_add, kI_sub, kI_mul, tn_add, Int.toNat_natCast, Int.reduceToNat, kI_le, kI_lt, kI_inj, decide_eq_true_eq, Bool.not_eq_true', decide_eq_false_iff_not, not_true_eq_false, not_false_eq_true, Classical.not_not, Bool.false_eq_true, if_true, if_false, z0, bI_k0, bI_k1, isB_b, isB_0, isB_1, kI_long, kd_stI, ln_stI, rv_stI, Int.reduceEq]
    exact ⟨rfl, e0⟩
