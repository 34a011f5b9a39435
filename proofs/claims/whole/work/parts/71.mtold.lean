/-! the reference: tells, judge, perform; night on both sides -/
theorem IMd89 {k : Nat} (h : k < 22 ∨ 100 ≤ k) : ¬ IMd 89 k := by
  intro w
  unfold IMd IM at w
  omega
theorem MTs.md {w : TW} {h h' : AH} (C : MTs w h) (e : Fr IMd JM h h') : MTs w h' := C.fr e (fun a k h1 h2 => ⟨fun w => by unfold IMd IM at w; omega, fun w => w⟩)
theorem MTs.so {w : TW} {h : AH} (C : MTs w h) (W : WTs w) : ∀ t, t < 4 → ivA h 103 t = kI (w.1 t) ∧ -1 ≤ w.1 t ∧ w.1 t ≤ 3 := fun t ht => ⟨(C t ht).1, (W t ht).1, (W t ht).2.1⟩
theorem MC.scr {s : ST} {y : DY} {h h' : AH} {I J : Nat → Nat → Prop} (C : MC s y h) (e : Fr I J h h') (hi : ∀ k, ¬ I 89 k) : MC s y h' := by
  have D := C.2.2.2.2
  refine C.to e (fun k _ => hi k) C.wy ⟨?_, ?_, ?_, fun k hk => ?_⟩
  · rw [e.2.2.2.2.2.1 89 _ (hi _)]; exact D.1
  · rw [e.2.2.2.2.2.1 89 _ (hi _)]; exact D.2.1
  · rw [e.2.2.2.2.2.1 89 _ (hi _)]; exact D.2.2.1
  · rw [e.2.2.2.2.2.1 89 _ (hi _)]; exact D.2.2.2 k hk
/-- the reference's state while it tells: frame, state, was -/
def TelM (s : ST) (y0' y' : DY) (why : Nat) (h h' : AH) : Prop := Fr IMd JM h h' ∧ MC s y' h' ∧ ivA h' 88 19 = kI why ∧ (∀ k, 29 ≤ k → k ≤ 99 → ivA h' 89 k = ivA h 89 k) ∧ ((∀ k, k < 7 → ivA h 95 k = dv y0' k) → ∀ k, k < 7 → ivA h' 95 k = dv y0' k)
theorem M_tells_g {s : ST} {y z : DY} {h : AH} (C : MC s y h) {w : TW} (X : MTs w h) (W : WTs w) {t : Nat} (ht : t < 4) (q3 : w.1 t ≠ -1) : GI 9 m_M_tells [.ref 88, .int (kI t)] h (kI ((tlF s (w.2.2 t) (w.2.1 t) 0 y).1 : Nat)) (TelM s z (tlF s (w.2.2 t) (w.2.1 t) 0 y).2.1 (tlF s (w.2.2 t) (w.2.1 t) 0 y).2.2 h) := by
  have F := C.fix
  have Wt := W t ht
  have n40 := Wt.2.2.1
  refine GIo (s_M_tells_0 ?_)
  refine ⟨by rw [kd_88 F]; rfl, ?_⟩
  have f0 : ∀ h1 x, Fr IMd JM h1 (stI h1 88 19 x) := fun h1 x => (Fr_rfl _ _ _).stI (Or.inr (Or.inr (Or.inr ⟨rfl, Or.inl rfl⟩))) _
  have i0 : ∀ h1 x, Fr (fun a k => a = 88 ∧ k = 19) JM h1 (stI h1 88 19 x) := fun h1 x => (Fr_rfl (fun a k => a = 88 ∧ k = 19) JM h1).stI ⟨rfl, rfl⟩ _
  suffices H : ∀ (m i : Nat) (y' : DY) (h2 : AH), i + m = w.2.1 t → TelM s z y' 0 h h2 → tlF s (w.2.2 t) (w.2.1 t) 0 y = tlF s (w.2.2 t) m i y' → Safe 8 m_M_tells (7, [.ref 88, .int (kI t), .int (kI i)], [], h2) (fun x h' => Eqv x (some (.int (kI ((tlF s (w.2.2 t) (w.2.1 t) 0 y).1 : Nat)))) ∧ TelM s z (tlF s (w.2.2 t) (w.2.1 t) 0 y).2.1 (tlF s (w.2.2 t) (w.2.1 t) 0 y).2.2 h h') by
    refine H _ 0 y _ (by omega) ⟨f0 h _, C.scr (i0 h _) (fun k w => by omega), ?_, fun k _ _ => ?_, fun W k hk => ?_⟩ rfl
    · rw [iv_stI, if_pos ⟨rfl, rfl⟩]; rfl
    · rw [iv_stI, if_neg (by omega)]
    · rw [iv_stI, if_neg (by omega)]; exact W k hk
  intro m
  induction m with
  | zero =>
    intro i y' h2 hi E et
    have X2 := X.md E.1 t ht
    have F2 := E.2.1.fix
    have x2 := (X2.2 q3).1
    refine s_M_tells_7 ?_
    simp (disch := omega) only [kd_88 F2, rv_88_29 F2, kd_104 F2, ln_104 F2, ix_lit, inB_lit, decide_true, Bool.true_or, Bool.or_true, true_and, and_true, kI_add, kI_sub, kI_mul, tn_add, Int.toNat_natCast, Int.reduceToNat, kI_le, kI_lt, kI_inj, decide_eq_true_eq, Bool.not_eq_true', decide_eq_false_iff_not, not_true_eq_false, not_false_eq_true, Classical.not_not, Bool.false_eq_true, if_true, if_false, z0, bI_k0, bI_k1, isB_b, isB_0, isB_1, kI_long, kd_stI, ln_stI, rv_stI, x2]
    rw [if_pos (by omega), et]
    have ei : w.2.1 t = i := by omega
    rw [ei]
    exact ⟨rfl, E⟩
  | succ m ih =>
    intro i y' h2 hi E et
    have X2 := X.md E.1 t ht
    have F2 := E.2.1.fix
    have x2 := (X2.2 q3).1
    have x3 := (X2.2 q3).2 i (by omega)
    have fb := Wt.2.2.2 i
    have ei : (40 * (t : Int) + (i : Int)).toNat = 40 * t + i := by omega
    refine s_M_tells_7 ?_
    simp (disch := omega) only [kd_88 F2, rv_88_29 F2, kd_104 F2, ln_104 F2, rv_88_30 F2, kd_105 F2, ln_105 F2, ix_lit, inB_lit, decide_true, Bool.true_or, true_and, kI_add, kI_mul, kI_le, decide_eq_true_eq, Int.toNat_natCast, Int.reduceToNat, x2, ei, x3]
    rw [if_neg (by omega)]
    refine GI.use (M_whyNot_g E.2.1 fb.1 fb.2) (by omega) (fun h3 e3 => ?_)
    have wl := whyD_le s y' (w.2.2 t i)
    have C3 := E.2.1.fr e3
    have e4 := i0 h3 (kI (whyD s y' (w.2.2 t i)))
    have C4 := C3.scr e4 (fun k w => by omega)
    have f4 : Fr IMd JM h (stI h3 88 19 (kI (whyD s y' (w.2.2 t i)))) := E.1.trans ((e3.mono (fun a k w => w.d) (fun _ _ w => w)).trans (f0 _ _))
    have E4 : TelM s z y' (whyD s y' (w.2.2 t i)) h (stI h3 88 19 (kI (whyD s y' (w.2.2 t i)))) := by
      refine ⟨f4, C4, ?_, fun k k1 k2 => ?_, fun W k hk => ?_⟩
      · rw [iv_stI, if_pos ⟨rfl, rfl⟩]
      · rw [iv_stI, if_neg (by omega), e3.2.2.2.2.2.1 _ _ (nIM89 k)]
        exact E.2.2.2.1 k k1 k2
      · rw [iv_stI, if_neg (by omega), e3.2.2.2.2.2.1 _ _ (by unfold IM; omega)]
        exact E.2.2.2.2 W k hk
    have F3 := C3.fix
    have F4 := C4.fix
    have x4 := ((X.md f4 t ht).2 q3).2 i (by omega)
    have et' : tlF s (w.2.2 t) (m + 1) i y' = if whyD s y' (w.2.2 t i) = 0 then tlF s (w.2.2 t) m (i + 1) (dD y' (w.2.2 t i)) else (i, y', whyD s y' (w.2.2 t i)) := rfl
    rw [et'] at et
    by_cases z : whyD s y' (w.2.2 t i) = 0
    · rw [if_pos z] at et
      have hr : 0 ≤ w.2.2 t i ∧ w.2.2 t i < 800 := by
        unfold whyD at z
        by_cases a1 : 0 ≤ w.2.2 t i ∧ w.2.2 t i < 400
        · omega
        · rw [if_neg a1] at z
          by_cases a2 : 500 ≤ w.2.2 t i ∧ w.2.2 t i < 600
          · omega
          · rw [if_neg a2] at z
            by_cases a3 : 600 ≤ w.2.2 t i ∧ w.2.2 t i < 700
            · omega
            · rw [if_neg a3] at z
              by_cases a4 : 700 ≤ w.2.2 t i ∧ w.2.2 t i < 800
              · omega
              · rw [if_neg a4] at z
                omega
      have zz : (kI (whyD s y' (w.2.2 t i)) = kI 0) = True := eq_true (by rw [z]; rfl)
      have ei2 : ix (kI (40 * (t : Int) + i)) = 40 * t + i := by rw [ix_lit (by omega) (by omega), ei]
      have eb2 : inB (kI (40 * (t : Int) + i)) 160 = true := inB_lit (by omega) (by omega) (by omega)
      have ej : (kJ (w.2.2 t i)).toInt32 = kI (w.2.2 t i) := kJ_int (by omega) (by omega)
      simp only [kd_88 F3, kd_88 F4, rv_88_30 F4, kd_105 F4, ln_105 F4, ei2, eb2, decide_true, true_and, E4.2.2.1, x4, z0, zz, if_true, ej]
      refine GV.use (M_does_g C4 z) (by omega) (fun h5 e5 => ?_)
      have := ih (i + 1) _ h5 (by omega) ⟨f4.trans (e5.1.mono (fun a k w => w.d) (fun _ _ w => w)), e5.2, ?_, fun k k1 k2 => ?_, fun W k hk => ?_⟩ et
      · exact this
      · rw [e5.1.2.2.2.2.2.1 _ _ (by unfold ID IM; omega)]
        exact (E4.2.2.1.trans (by rw [z]))
      · rw [e5.1.2.2.2.2.2.1 _ _ (by unfold ID IM; omega)]
        exact E4.2.2.2.1 k k1 k2
      · rw [e5.1.2.2.2.2.2.1 _ _ (by unfold ID IM; omega)]
        exact E4.2.2.2.2 W k hk
    · rw [if_neg z] at et
      have z' : ¬ (whyD s y' (w.2.2 t i) : Int) = 0 := by omega
      simp (disch := omega) only [kd_88 F3, kd_88 F4, decide_true, true_and, E4.2.2.1, z0, kI_inj, decide_eq_true_eq, z', if_false]
      rw [et]
      exact ⟨rfl, E4⟩
theorem M_judge_g {s : ST} {y : DY} {hs : List DY} {h : AH} (B : BM s y hs h) {w : TW} (X : MTs w h) (W : WTs w) {t c : Int} (t1 : -2147483648 ≤ t) (t2 : t ≤ 2147483647) (c1 : -2147483648 ≤ c) (c2 : c ≤ 2147483647) : GI 10 m_M_judge [.ref 88, .int (kI t), .int (kI c)] h (kI (if (0 ≤ t ∧ t < 4) ∧ (0 ≤ c ∧ c ≤ 3) then judA s y (w.1 t.toNat) (w.2.1 t.toNat) (w.2.2 t.toNat) c else -2)) (fun h' => Fr IMd JM h h' ∧ BM s y hs h') := by
  have F := B.M.fix
  have e0 := f88 h
  have B0 := B.im e0
  have F0 := B0.M.fix
  have g0 : Fr IMd JM h (stI h 88 0 (kI 0)) := e0.mono (fun a k w => w.d) (fun _ _ w => w)
  have X0 := X.md g0
  refine GIo (s_M_judge_0 ?_)
  by_cases q2 : 0 ≤ c ∧ c ≤ 3
  · have p2 : (0 ≤ c ∧ c ≤ 3) = True := eq_true q2
    by_cases q : 0 ≤ t ∧ t < 4
    · rw [if_pos ⟨q, q2⟩]
      obtain ⟨t, rfl⟩ := Int.eq_ofNat_of_zero_le q.1
      have ht : t < 4 := by omega
      have p1 : (0 ≤ (t : Int) ∧ (t : Int) < 4) = True := eq_true q
      have so := X0.so W
      simp (disch := omega) only [kd_88 F, kd_88 F0, M_within_c, p2, ix_lit, inB_lit, decide_true, Bool.true_or, Bool.or_true, true_and, and_true, kI_add, kI_sub, kI_mul, tn_add, Int.toNat_natCast, Int.reduceToNat, kI_le, kI_lt, kI_inj, decide_eq_true_eq, Bool.not_eq_true', decide_eq_false_iff_not, not_true_eq_false, not_false_eq_true, Classical.not_not, Bool.false_eq_true, if_true, if_false, z0, bI_k0, bI_k1, isB_b, isB_0, isB_1, kI_long, kd_stI, ln_stI, rv_stI, M_noTray_c (show 2 ≤ 9 by omega) F0 t1 t2 so, p1]
      unfold judA
      by_cases q3 : w.1 t = -1
      · rw [if_pos q3, if_pos q3]
        simp (disch := omega) only [ix_lit, inB_lit, decide_true, Bool.true_or, Bool.or_true, true_and, and_true, kI_add, kI_sub, kI_mul, tn_add, Int.toNat_natCast, Int.reduceToNat, kI_le, kI_lt, kI_inj, decide_eq_true_eq, Bool.not_eq_true', decide_eq_false_iff_not, not_true_eq_false, not_false_eq_true, Classical.not_not, Bool.false_eq_true, if_true, if_false, z0, bI_k0, bI_k1, isB_b, isB_0, isB_1, kI_long, kd_stI, ln_stI, rv_stI, Int.reduceEq]
        exact ⟨rfl, g0, B0⟩
      · rw [if_neg q3, if_neg q3]
        simp (disch := omega) only [ix_lit, inB_lit, decide_true, Bool.true_or, Bool.or_true, true_and, and_true, kI_add, kI_sub, kI_mul, tn_add, Int.toNat_natCast, Int.reduceToNat, kI_le, kI_lt, kI_inj, decide_eq_true_eq, Bool.not_eq_true', decide_eq_false_iff_not, not_true_eq_false, not_false_eq_true, Classical.not_not, Bool.false_eq_true, if_true, if_false, z0, bI_k0, bI_k1, isB_b, isB_0, isB_1, kI_long, kd_stI, ln_stI, rv_stI]
        refine GV.use (M_keeps_g B0.M) (by omega) (fun h1 e1 => ?_)
        have B1 := B0.scr e1.1 (fun k _ => by omega)
        have g1 : Fr IMd JM h h1 := g0.trans (e1.1.mono (fun a k w => Or.inr (Or.inr (Or.inl w))) (fun _ _ w => w))
        have X1 := X.md g1
        refine ⟨by rw [kd_88 B1.M.fix]; try rfl, ?_⟩
        refine GI.use (M_tells_g (z := y) B1.M X1 W ht q3) (by omega) (fun h2 e2 => ?_)
        have C2 := e2.2.1
        have F2 := C2.fix
        have W2 := e2.2.2.2.2 e1.2
        have wb := tlF_b (s := s) (f := w.2.2 t) (w.2.1 t) 0 y
        have wt := (W t ht).2.2.1
        have H2 : MH hs h2 := by
          refine ⟨B1.H.len, ?_, fun i hi k hk => ?_⟩
          · rw [e2.2.2.2.1 29 (by omega) (by omega)]; exact B1.H.i29
          · have l := B1.H.len
            rw [e2.2.2.2.1 _ (by omega) (by omega)]; exact B1.H.e i hi k hk
        have fin : ∀ b : Int, b = (if foundF (tlF s (w.2.2 t) (w.2.1 t) 0 y).2.1 = true then 1 else 0) → Safe 9 m_M_judge (64, [.ref 88, unV, .int (kI c), unV, .int (kI ((tlF s (w.2.2 t) (w.2.1 t) 0 y).1 : Nat)), .int (kI (yD (tlF s (w.2.2 t) (w.2.1 t) 0 y).2.1)), unV], [.int (kI b)], h2) (fun x h' => Eqv x (some (.int (kI (if c = 0 then (if (tlF s (w.2.2 t) (w.2.1 t) 0 y).2.2 = 0 then -1 else ((tlF s (w.2.2 t) (w.2.1 t) 0 y).1 : Int)) else if c = 1 then ((tlF s (w.2.2 t) (w.2.1 t) 0 y).2.2 : Int) else if c = 2 then (yD (tlF s (w.2.2 t) (w.2.1 t) 0 y).2.1 : Int) else (if foundF (tlF s (w.2.2 t) (w.2.1 t) 0 y).2.1 = true then 1 else 0))))) ∧ (fun h' => Fr IMd JM h h' ∧ BM s y hs h') h') := by
          intro b eb
          refine s_M_judge_64 ?_
          refine ⟨by rw [kd_88 F2]; rfl, ?_⟩
          refine GV.use (M_isAgain_g C2 B.M.wy W2) (by omega) (fun h3 e3 => ?_)
          have F3 := e3.2.fix
          have i19 : ivA h3 88 19 = kI ((tlF s (w.2.2 t) (w.2.1 t) 0 y).2.2 : Nat) := by
            rw [e3.1.2.2.2.2.2.1 _ _ (by unfold ID IM; omega)]
            exact e2.2.2.1
          have out : Fr IMd JM h h3 ∧ BM s y hs h3 := ⟨g1.trans (e2.1.trans (e3.1.mono (fun a k w => w.d) (fun _ _ w => w))), e3.2, H2.fr e3.1 (fun k _ _ => by unfold ID IM; omega), B.wh⟩
          have e : c = 0 ∨ c = 1 ∨ c = 2 ∨ c = 3 := by omega
          rcases e with rfl | rfl | rfl | rfl
          · by_cases z : (tlF s (w.2.2 t) (w.2.1 t) 0 y).2.2 = 0
            · have z' : ((tlF s (w.2.2 t) (w.2.1 t) 0 y).2.2 : Int) = 0 := by omega
              simp (disch := omega) only [ix_lit, inB_lit, decide_true, Bool.true_or, Bool.or_true, true_and, and_true, kI_add, kI_sub, kI_mul, tn_add, Int.toNat_natCast, Int.reduceToNat, kI_le, kI_lt, kI_inj, decide_eq_true_eq, Bool.not_eq_true', decide_eq_false_iff_not, not_true_eq_false, not_false_eq_true, Classical.not_not, Bool.false_eq_true, if_true, if_false, z0, bI_k0, bI_k1, isB_b, isB_0, isB_1, kI_long, kd_stI, ln_stI, rv_stI, kd_88 F3, i19, z', z]
              exact ⟨rfl, out⟩
            · have z' : ¬ ((tlF s (w.2.2 t) (w.2.1 t) 0 y).2.2 : Int) = 0 := by omega
              simp (disch := omega) only [ix_lit, inB_lit, decide_true, Bool.true_or, Bool.or_true, true_and, and_true, kI_add, kI_sub, kI_mul, tn_add, Int.toNat_natCast, Int.reduceToNat, kI_le, kI_lt, kI_inj, decide_eq_true_eq, Bool.not_eq_true', decide_eq_false_iff_not, not_true_eq_false, not_false_eq_true, Classical.not_not, Bool.false_eq_true, if_true, if_false, z0, bI_k0, bI_k1, isB_b, isB_0, isB_1, kI_long, kd_stI, ln_stI, rv_stI, kd_88 F3, i19, z', z]
              exact ⟨rfl, out⟩
          · simp (disch := omega) only [ix_lit, inB_lit, decide_true, Bool.true_or, Bool.or_true, true_and, and_true, kI_add, kI_sub, kI_mul, tn_add, Int.toNat_natCast, Int.reduceToNat, kI_le, kI_lt, kI_inj, decide_eq_true_eq, Bool.not_eq_true', decide_eq_false_iff_not, not_true_eq_false, not_false_eq_true, Classical.not_not, Bool.false_eq_true, if_true, if_false, z0, bI_k0, bI_k1, isB_b, isB_0, isB_1, kI_long, kd_stI, ln_stI, rv_stI, Int.reduceEq, kd_88 F3, i19]
            exact ⟨rfl, out⟩
          · simp (disch := omega) only [ix_lit, inB_lit, decide_true, Bool.true_or, Bool.or_true, true_and, and_true, kI_add, kI_sub, kI_mul, tn_add, Int.toNat_natCast, Int.reduceToNat, kI_le, kI_lt, kI_inj, decide_eq_true_eq, Bool.not_eq_true', decide_eq_false_iff_not, not_true_eq_false, not_false_eq_true, Classical.not_not, Bool.false_eq_true, if_true, if_false, z0, bI_k0, bI_k1, isB_b, isB_0, isB_1, kI_long, kd_stI, ln_stI, rv_stI, Int.reduceEq]
            exact ⟨rfl, out⟩
          · simp (disch := omega) only [ix_lit, inB_lit, decide_true, Bool.true_or, Bool.or_true, true_and, and_true, kI_add, kI_sub, kI_mul, tn_add, Int.toNat_natCast, Int.reduceToNat, kI_le, kI_lt, kI_inj, decide_eq_true_eq, Bool.not_eq_true', decide_eq_false_iff_not, not_true_eq_false, not_false_eq_true, Classical.not_not, Bool.false_eq_true, if_true, if_false, z0, bI_k0, bI_k1, isB_b, isB_0, isB_1, kI_long, kd_stI, ln_stI, rv_stI, Int.reduceEq]
            rw [eb]
            exact ⟨rfl, out⟩
        simp (disch := omega) only [kd_88 F2, rv_88_1 F2, kd_89 F2, ln_89 F2, ix_lit, inB_lit, decide_true, Bool.true_or, Bool.or_true, true_and, and_true, kI_add, kI_sub, kI_mul, tn_add, Int.toNat_natCast, Int.reduceToNat, kI_le, kI_lt, kI_inj, decide_eq_true_eq, Bool.not_eq_true', decide_eq_false_iff_not, not_true_eq_false, not_false_eq_true, Classical.not_not, Bool.false_eq_true, if_true, if_false, z0, bI_k0, bI_k1, isB_b, isB_0, isB_1, kI_long, kd_stI, ln_stI, rv_stI, C2.i22, M_isFound_c C2]
        by_cases z : foundF (tlF s (w.2.2 t) (w.2.1 t) 0 y).2.1 = true
        · rw [if_neg (fun w => w z)]
          exact fin 1 (by rw [if_pos z])
        · rw [if_pos z]
          exact fin 0 (by rw [if_neg z])
    · rw [if_neg (fun w => q w.1)]
      have so := X0.so W
      simp (disch := omega) only [kd_88 F, kd_88 F0, M_within_c, p2, ix_lit, inB_lit, decide_true, Bool.true_or, Bool.or_true, true_and, and_true, kI_add, kI_sub, kI_mul, tn_add, Int.toNat_natCast, Int.reduceToNat, kI_le, kI_lt, kI_inj, decide_eq_true_eq, Bool.not_eq_true', decide_eq_false_iff_not, not_true_eq_false, not_false_eq_true, Classical.not_not, Bool.false_eq_true, if_true, if_false, z0, bI_k0, bI_k1, isB_b, isB_0, isB_1, kI_long, kd_stI, ln_stI, rv_stI, M_noTray_c (show 2 ≤ 9 by omega) F0 t1 t2 so, eq_false q, Int.reduceEq]
      exact ⟨rfl, g0, B0⟩
  · rw [if_neg (fun w => q2 w.2)]
    simp (disch := omega) only [kd_88 F, M_within_c, eq_false q2, ix_lit, inB_lit, decide_true, Bool.true_or, Bool.or_true, true_and, and_true, kI_add, kI_sub, kI_mul, tn_add, Int.toNat_natCast, Int.reduceToNat, kI_le, kI_lt, kI_inj, decide_eq_true_eq, Bool.not_eq_true', decide_eq_false_iff_not, not_true_eq_false, not_false_eq_true, Classical.not_not, Bool.false_eq_true, if_true, if_false, z0, bI_k0, bI_k1, isB_b, isB_0, isB_1, kI_long, kd_stI, ln_stI, rv_stI]
    exact ⟨rfl, g0, B0⟩
def OutQ (s : ST) (y y' : DY) (hs : List DY) (k : Nat) (h h' : AH) : Prop := Fr IMd JM h h' ∧ BM s y' (keepF k y hs) h'
theorem M_perform_g {s : ST} {y : DY} {hs : List DY} {h : AH} (B : BM s y hs h) {w : TW} (X : MTs w h) (W : WTs w) {t : Nat} (ht : t < 4) (q3 : w.1 t ≠ -1) : GI 10 m_M_perform [.ref 88, .int (kI t)] h (kI ((tlF s (w.2.2 t) (w.2.1 t) 0 y).1 : Nat)) (OutQ s y (tlF s (w.2.2 t) (w.2.1 t) 0 y).2.1 hs (tlF s (w.2.2 t) (w.2.1 t) 0 y).1 h) := by
  have F := B.M.fix
  have e0 := f88 h
  have B0 := B.im e0
  have F0 := B0.M.fix
  have g0 : Fr IMd JM h (stI h 88 0 (kI 0)) := e0.mono (fun a k w => w.d) (fun _ _ w => w)
  have X0 := X.md g0
  have so := X0.so W
  have p1 : (0 ≤ (t : Int) ∧ (t : Int) < 4) = True := eq_true (by omega)
  refine GIo (s_M_perform_0 ?_)
  simp (disch := omega) only [kd_88 F, kd_88 F0, ix_lit, inB_lit, decide_true, Bool.true_or, Bool.or_true, true_and, and_true, kI_add, kI_sub, kI_mul, tn_add, Int.toNat_natCast, Int.reduceToNat, kI_le, kI_lt, kI_inj, decide_eq_true_eq, Bool.not_eq_true', decide_eq_false_iff_not, not_true_eq_false, not_false_eq_true, Classical.not_not, Bool.false_eq_true, if_true, if_false, z0, bI_k0, bI_k1, isB_b, isB_0, isB_1, kI_long, kd_stI, ln_stI, rv_stI, M_noTray_c (a := (t : Int)) (show 2 ≤ 9 by omega) F0 (by omega) (by omega) so, p1, q3]
  refine GV.use (M_keeps_g B0.M) (by omega) (fun h1 e1 => ?_)
  have B1 := B0.scr e1.1 (fun k _ => by omega)
  have g1 : Fr IMd JM h h1 := g0.trans (e1.1.mono (fun a k w => Or.inr (Or.inr (Or.inl w))) (fun _ _ w => w))
  have X1 := X.md g1
  refine ⟨by rw [kd_88 B1.M.fix]; try rfl, ?_⟩
  refine GI.use (M_tells_g (z := y) B1.M X1 W ht q3) (by omega) (fun h2 e2 => ?_)
  have C2 := e2.2.1
  have F2 := C2.fix
  have W2 := e2.2.2.2.2 e1.2
  have wb := tlF_b (s := s) (f := w.2.2 t) (w.2.1 t) 0 y
  have wt := (W t ht).2.2.1
  have H2 : MH hs h2 := by
    refine ⟨B1.H.len, ?_, fun i hi k hk => ?_⟩
    · rw [e2.2.2.2.1 29 (by omega) (by omega)]; exact B1.H.i29
    · have l := B1.H.len
      rw [e2.2.2.2.1 _ (by omega) (by omega)]; exact B1.H.e i hi k hk
  have g2 := g1.trans e2.1
  simp (disch := omega) only [ix_lit, inB_lit, decide_true, Bool.true_or, Bool.or_true, true_and, and_true, kI_add, kI_sub, kI_mul, tn_add, Int.toNat_natCast, Int.reduceToNat, kI_le, kI_lt, kI_inj, decide_eq_true_eq, Bool.not_eq_true', decide_eq_false_iff_not, not_true_eq_false, not_false_eq_true, Classical.not_not, Bool.false_eq_true, if_true, if_false, z0, bI_k0, bI_k1, isB_b, isB_0, isB_1, kI_long, kd_stI, ln_stI, rv_stI, kd_88 F2]
  unfold OutQ keepF
  by_cases z : (tlF s (w.2.2 t) (w.2.1 t) 0 y).1 = 0
  · rw [if_pos (by omega)]
    refine ⟨rfl, g2, ?_⟩
    rw [if_pos z]
    exact ⟨C2, H2, B.wh⟩
  · rw [if_neg (by omega)]
    refine GV.use (M_notes_g F2 H2 W2) (by omega) (fun h3 e3 => ?_)
    refine ⟨rfl, g2.trans (e3.1.mono (fun a k w => Or.inr (Or.inl (by omega))) (fun _ _ w => w)), ?_⟩
    rw [if_neg z]
    refine ⟨C2.to e3.1 (fun k hk => by omega) C2.wy ?_, e3.2, wh_take B.M.wy B.wh⟩
    have D := C2.2.2.2.2
    refine ⟨?_, ?_, ?_, fun k hk => ?_⟩
    · rw [e3.1.2.2.2.2.2.1 89 _ (by omega)]; exact D.1
    · rw [e3.1.2.2.2.2.2.1 89 _ (by omega)]; exact D.2.1
    · rw [e3.1.2.2.2.2.2.1 89 _ (by omega)]; exact D.2.2.1
    · rw [e3.1.2.2.2.2.2.1 89 _ (by omega)]; exact D.2.2.2 k hk
