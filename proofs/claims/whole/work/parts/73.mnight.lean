/-! the reference's night; trays on both sides -/
theorem up2_up2 {α : Type} (f : Nat → Nat → α) (a k : Nat) (x x' : α) : up2 (up2 f a k x) a k x' = up2 f a k x' := by
  funext b j
  unfold up2
  split <;> rfl
theorem stI_stI (h : AH) (a k : Nat) (x x' : Int32) : stI (stI h a k x) a k x' = stI h a k x' := by
  show (h.1, h.2.1, up2 (up2 h.2.2.1 a k x) a k x', h.2.2.2.1, h.2.2.2.2.1, h.2.2.2.2.2.1, h.2.2.2.2.2.2) = stI h a k x'
  rw [up2_up2]
  rfl
theorem M_drawnDeed_c {d : Nat} (hd : 2 ≤ d) {h : AH} (F : Fix h) {x : Int32} (hx : ivA h 88 20 = x) {K : Int32 → AH → Prop} : CallI d m_M_drawnDeed [.ref 88] h K ↔ K (kI (ndF x).1) (stI h 88 20 (ndF x).2) := by
  refine Ret.I (d := 2) (ret_of (s_M_drawnDeed_0 ?_)) hd
  have fx : ∀ z, Fix (stI h 88 20 z) := fun z => fix_stI F 88 20 z
  have hz : ∀ z, ivA (stI h 88 20 z) 88 20 = z := fun z => by rw [iv_stI, if_pos ⟨rfl, rfl⟩]
  have D6 := fun {d : Nat} (hd : 1 ≤ d) {K : Int32 → AH → Prop} => M_draw_c hd F hx (b := 6) (by omega) (by omega) (K := K)
  have D := fun (z : Int32) (b : Nat) (h0 : 0 < b) (hb : b < 100) {d : Nat} (hd : 1 ≤ d) {K : Int32 → AH → Prop} => M_draw_c hd (fx z) (hz z) (b := b) h0 hb (K := K)
  have D12 := fun (z : Int32) {d : Nat} (hd : 1 ≤ d) {K : Int32 → AH → Prop} => D z 12 (by omega) (by omega) hd (K := K)
  have D4 := fun (z : Int32) {d : Nat} (hd : 1 ≤ d) {K : Int32 → AH → Prop} => D z 4 (by omega) (by omega) hd (K := K)
  have D10 := fun (z : Int32) {d : Nat} (hd : 1 ≤ d) {K : Int32 → AH → Prop} => D z 10 (by omega) (by omega) hd (K := K)
  simp only [Int.cast_ofNat_Int] at D6 D12 D4 D10
  simp only [stI_stI] at D12 D4 D10
  unfold ndF
  by_cases q3 : t16 (shk x) % 6 = 3
  · rw [if_pos q3]
    have w3 : ((t16 (shk x) % 6 : Nat) : Int) = 3 := by omega
    simp (disch := omega) only [kd_88 F, kd_88 (fx _), D6, D12, ix_lit, inB_lit, decide_true, Bool.true_or, Bool.or_true, true_and, and_true, kI_add, kI_sub, kI_mul, tn_add, Int.toNat_natCast, Int.reduceToNat, kI_le, kI_lt, kI_inj, decide_eq_true_eq, Bool.not_eq_true', decide_eq_false_iff_not, not_true_eq_false, not_false_eq_true, Classical.not_not, Bool.false_eq_true, if_true, if_false, z0, bI_k0, bI_k1, isB_b, isB_0, isB_1, kI_long, kd_stI, ln_stI, rv_stI, w3, Int.reduceEq]
  · rw [if_neg q3]
    have w3 : ¬ ((t16 (shk x) % 6 : Nat) : Int) = 3 := by omega
    by_cases q5 : t16 (shk x) % 6 = 5
    · rw [if_pos q5]
      have w5 : ((t16 (shk x) % 6 : Nat) : Int) = 5 := by omega
      simp (disch := omega) only [kd_88 F, kd_88 (fx _), D6, D12, ix_lit, inB_lit, decide_true, Bool.true_or, Bool.or_true, true_and, and_true, kI_add, kI_sub, kI_mul, tn_add, Int.toNat_natCast, Int.reduceToNat, kI_le, kI_lt, kI_inj, decide_eq_true_eq, Bool.not_eq_true', decide_eq_false_iff_not, not_true_eq_false, not_false_eq_true, Classical.not_not, Bool.false_eq_true, if_true, if_false, z0, bI_k0, bI_k1, isB_b, isB_0, isB_1, kI_long, kd_stI, ln_stI, rv_stI, w5, Int.reduceEq]
    · rw [if_neg q5]
      have w5 : ¬ ((t16 (shk x) % 6 : Nat) : Int) = 5 := by omega
      by_cases q : t16 (shk x) % 6 < 3
      · rw [if_pos q]
        have w : ¬ (3 : Int) ≤ ((t16 (shk x) % 6 : Nat) : Int) := by omega
        simp (disch := omega) only [kd_88 F, kd_88 (fx _), D6, D4, D12, ix_lit, inB_lit, decide_true, Bool.true_or, Bool.or_true, true_and, and_true, kI_add, kI_sub, kI_mul, tn_add, Int.toNat_natCast, Int.reduceToNat, kI_le, kI_lt, kI_inj, decide_eq_true_eq, Bool.not_eq_true', decide_eq_false_iff_not, not_true_eq_false, not_false_eq_true, Classical.not_not, Bool.false_eq_true, if_true, if_false, z0, bI_k0, bI_k1, isB_b, isB_0, isB_1, kI_long, kd_stI, ln_stI, rv_stI, w3, w5, w]
      · rw [if_neg q]
        have w : (3 : Int) ≤ ((t16 (shk x) % 6 : Nat) : Int) := by omega
        simp (disch := omega) only [kd_88 F, kd_88 (fx _), D6, D4, D10, ix_lit, inB_lit, decide_true, Bool.true_or, Bool.or_true, true_and, and_true, kI_add, kI_sub, kI_mul, tn_add, Int.toNat_natCast, Int.reduceToNat, kI_le, kI_lt, kI_inj, decide_eq_true_eq, Bool.not_eq_true', decide_eq_false_iff_not, not_true_eq_false, not_false_eq_true, Classical.not_not, Bool.false_eq_true, if_true, if_false, z0, bI_k0, bI_k1, isB_b, isB_0, isB_1, kI_long, kd_stI, ln_stI, rv_stI, w3, w5, w]
theorem M_night_g {s : ST} {y : DY} {hs : List DY} {h : AH} (B : BM s y hs h) (x : Int32) {n : Nat} (n1 : 1 ≤ n) (n2 : n ≤ 40) : GI 10 m_M_night [.ref 88, .int x, .int (kI n)] h (kI ((ntF s n x y 0).2 : Nat)) (OutQ s y (ntF s n x y 0).1 hs (ntF s n x y 0).2 h) := by
  have F := B.M.fix
  have e0 := f88 h
  have B0 := B.im e0
  have F0 := B0.M.fix
  have g0 : Fr IMd JM h (stI h 88 0 (kI 0)) := e0.mono (fun a k w => w.d) (fun _ _ w => w)
  have p1 : (1 ≤ (n : Int) ∧ (n : Int) ≤ 40) = True := eq_true (by omega)
  have i20 : ∀ h1 z, Fr (fun a k => a = 88 ∧ k = 20) JM h1 (stI h1 88 20 z) := fun h1 z => (Fr_rfl (fun a k => a = 88 ∧ k = 20) JM h1).stI ⟨rfl, rfl⟩ _
  have d20 : ∀ h1 z, Fr IMd JM h1 (stI h1 88 20 z) := fun h1 z => (i20 h1 z).mono (fun a k w => Or.inr (Or.inr (Or.inr ⟨w.1, Or.inr w.2⟩))) (fun _ _ w => w)
  refine GIo (s_M_night_0 ?_)
  simp (disch := omega) only [kd_88 F, kd_88 F0, M_within_c, p1, ix_lit, inB_lit, decide_true, Bool.true_or, Bool.or_true, true_and, and_true, kI_add, kI_sub, kI_mul, tn_add, Int.toNat_natCast, Int.reduceToNat, kI_le, kI_lt, kI_inj, decide_eq_true_eq, Bool.not_eq_true', decide_eq_false_iff_not, not_true_eq_false, not_false_eq_true, Classical.not_not, Bool.false_eq_true, if_true, if_false, z0, bI_k0, bI_k1, isB_b, isB_0, isB_1, kI_long, kd_stI, ln_stI, rv_stI]
  refine GV.use (M_keeps_g B0.M) (by omega) (fun h1 e1 => ?_)
  have B1 := B0.scr e1.1 (fun k _ => by omega)
  have g1 : Fr IMd JM h h1 := g0.trans (e1.1.mono (fun a k w => Or.inr (Or.inr (Or.inl w))) (fun _ _ w => w))
  refine ⟨by rw [kd_88 B1.M.fix]; try rfl, ?_⟩
  suffices H : ∀ (m : Nat) (x' : Int32) (y' : DY) (k : Nat) (h2 : AH), m ≤ n → k + m ≤ n → Fr IMd JM h h2 → MC s y' h2 → MH hs h2 → (∀ k, k < 7 → ivA h2 95 k = dv y k) → ivA h2 88 20 = x' → ntF s n x y 0 = ntF s m x' y' k → Safe 9 m_M_night (34, [.ref 88, unV, .int (kI n), .int (kI k), .int (kI ((n - m : Nat) : Int)), unV], [], h2) (fun x' h' => Eqv x' (some (.int (kI ((ntF s n x y 0).2 : Nat)))) ∧ OutQ s y (ntF s n x y 0).1 hs (ntF s n x y 0).2 h h') by
    have := H n x y 0 (stI h1 88 20 x) (by omega) (by omega) (g1.trans (d20 h1 x)) (B1.M.scr (i20 h1 x) (fun k w => by omega)) (B1.H.fr (i20 h1 x) (fun k _ _ w => by omega)) (fun k hk => by rw [iv_stI, if_neg (by omega)]; exact e1.2 k hk) (by rw [iv_stI, if_pos ⟨rfl, rfl⟩]) rfl
    rw [Nat.sub_self] at this
    exact this
  intro m
  induction m with
  | zero =>
    intro x' y' k h2 _ hk g2 C2 H2 W2 hx et
    have F2 := C2.fix
    refine s_M_night_34 ?_
    have et' : ntF s 0 x' y' k = (y', k) := rfl
    rw [et, et']
    unfold OutQ keepF
    simp (disch := omega) only [kd_88 F2, ix_lit, inB_lit, decide_true, Bool.true_or, Bool.or_true, true_and, and_true, kI_add, kI_sub, kI_mul, tn_add, Int.toNat_natCast, Int.reduceToNat, kI_le, kI_lt, kI_inj, decide_eq_true_eq, Bool.not_eq_true', decide_eq_false_iff_not, not_true_eq_false, not_false_eq_true, Classical.not_not, Bool.false_eq_true, if_true, if_false, z0, bI_k0, bI_k1, isB_b, isB_0, isB_1, kI_long, kd_stI, ln_stI, rv_stI, Nat.sub_zero, Int.le_refl]
    by_cases z : k = 0
    · rw [if_pos (by omega)]
      refine ⟨rfl, g2, ?_⟩
      rw [if_pos z]
      exact ⟨C2, H2, B.wh⟩
    · rw [if_neg (by omega)]
      refine GV.use (M_notes_g F2 H2 W2) (by omega) (fun h3 e3 => ?_)
      refine ⟨rfl, g2.trans (e3.1.mono (fun a k w => Or.inr (Or.inl (by omega))) (fun _ _ w => w)), ?_⟩
      rw [if_neg z]
      refine ⟨C2.to e3.1 (fun k hk => by omega) C2.wy ?_, e3.2, wh_take B.M.wy B.wh⟩
      have D := C2.2.2.2.2
      refine ⟨?_, ?_, ?_, fun k hk => ?_⟩
      · rw [e3.1.2.2.2.2.2.1 89 _ (by omega)]; exact D.1
      · rw [e3.1.2.2.2.2.2.1 89 _ (by omega)]; exact D.2.1
      · rw [e3.1.2.2.2.2.2.1 89 _ (by omega)]; exact D.2.2.1
      · rw [e3.1.2.2.2.2.2.1 89 _ (by omega)]; exact D.2.2.2 k hk
  | succ m ih =>
    intro x' y' k h2 hm hk g2 C2 H2 W2 hx et
    have F2 := C2.fix
    have nb := ndF_b x'
    have e3 := i20 h2 (ndF x').2
    have C3 := C2.scr e3 (fun k w => by omega)
    refine s_M_night_34 ?_
    simp (disch := omega) only [kd_88 F2, kd_88 C3.fix, kI_le, decide_eq_true_eq, decide_true, true_and, M_drawnDeed_c (show 2 ≤ 9 by omega) F2 hx, kI_long]
    rw [if_neg (by omega)]
    refine GI.use (M_whyNot_g C3 (by omega) (by omega)) (by omega) (fun h4 e4 => ?_)
    have C4 := C3.fr e4
    have F4 := C4.fix
    have wl := whyD_le s y' (ndF x').1
    have g4 : Fr IMd JM h h4 := g2.trans ((d20 _ _).trans (e4.mono (fun a k w => w.d) (fun _ _ w => w)))
    have H4 : MH hs h4 := (H2.fr e3 (fun k _ _ w => by omega)).fr e4 (fun k _ _ => nIM89 k)
    have W4 : ∀ k, k < 7 → ivA h4 95 k = dv y k := fun k hk => by
      rw [e4.2.2.2.2.2.1 _ _ (by unfold IM; omega), iv_stI, if_neg (by omega)]
      exact W2 k hk
    have x4 : ivA h4 88 20 = (ndF x').2 := by
      rw [e4.2.2.2.2.2.1 _ _ (by unfold IM; omega), iv_stI, if_pos ⟨rfl, rfl⟩]
    have et' : ntF s (m + 1) x' y' k = if whyD s y' (ndF x').1 = 0 then ntF s m (ndF x').2 (dD y' (ndF x').1) (k + 1) else ntF s m (ndF x').2 y' k := rfl
    rw [et'] at et
    have en : kI ((n - (m + 1) : Nat) : Int) + kI 1 = kI ((n - m : Nat) : Int) := by rw [kI_add]; congr 1; omega
    rw [en]
    simp (disch := omega) only [ix_lit, inB_lit, decide_true, Bool.true_or, Bool.or_true, true_and, and_true, kI_add, kI_sub, kI_mul, tn_add, Int.toNat_natCast, Int.reduceToNat, kI_le, kI_lt, kI_inj, decide_eq_true_eq, Bool.not_eq_true', decide_eq_false_iff_not, not_true_eq_false, not_false_eq_true, Classical.not_not, Bool.false_eq_true, if_true, if_false, z0, bI_k0, bI_k1, isB_b, isB_0, isB_1, kI_long, kd_stI, ln_stI, rv_stI, kd_88 F4]
    by_cases z : whyD s y' (ndF x').1 = 0
    · rw [if_pos z] at et
      rw [if_pos (by omega)]
      refine GV.use (M_does_g C4 z) (by omega) (fun h5 e5 => ?_)
      have := ih (ndF x').2 _ (k + 1) h5 (by omega) (by omega) (g4.trans (e5.1.mono (fun a k w => w.d) (fun _ _ w => w))) e5.2 (H4.fr e5.1 (fun k _ _ => by unfold ID IM; omega)) (fun k hk => by rw [e5.1.2.2.2.2.2.1 _ _ (by unfold ID IM; omega)]; exact W4 k hk) (by rw [e5.1.2.2.2.2.2.1 _ _ (by unfold ID IM; omega)]; exact x4) et
      exact this
    · rw [if_neg z] at et
      rw [if_neg (by omega)]
      exact ih (ndF x').2 _ k h4 (by omega) (by omega) g4 C4 H4 W4 x4 et
/-! refusals of perform and night -/
theorem X_perform_no {T : Nat → Nat} {s : ST} {p : Nat} {y : DY} {v : Int} {hs : List DY} {nx : Nat} {h : AH} (B : BX T s p y v hs nx h) {w : TW} (X : XTs w h) (W : WTs w) {t : Int} (t1 : -2147483648 ≤ t) (t2 : t ≤ 2147483647) (no : ¬ ((0 ≤ t ∧ t < 4) ∧ w.1 t.toNat ≠ -1)) : GI 2 m_X_perform [.ref 1, .int (kI t)] h (kI (if 0 ≤ t ∧ t < 4 then -6 else -2)) (fun h' => h' = h) := by
  have F := B.F
  refine GIo (s_X_perform_0 ?_)
  by_cases q : 0 ≤ t ∧ t < 4
  · rw [if_pos q]
    have p1 : (0 ≤ t ∧ t < 4) = True := eq_true q
    obtain ⟨t, rfl⟩ := Int.eq_ofNat_of_zero_le q.1
    have ht : t < 4 := by omega
    have q3 : w.1 t = -1 := Classical.byContradiction (fun z => no ⟨q, z⟩)
    have Tf := tr_fix F ht
    simp (disch := omega) only [kd_1 F, rv_1_11 F, kd_73 F, ln_73 F, Tf.1, Tf.2.1, ix_lit, inB_lit, decide_true, Bool.true_or, Bool.or_true, true_and, and_true, kI_add, kI_sub, kI_mul, tn_add, Int.toNat_natCast, Int.reduceToNat, kI_le, kI_lt, kI_inj, decide_eq_true_eq, Bool.not_eq_true', decide_eq_false_iff_not, not_true_eq_false, not_false_eq_true, Classical.not_not, Bool.false_eq_true, if_true, if_false, z0, bI_k0, bI_k1, isB_b, isB_0, isB_1, kI_long, kd_stI, ln_stI, rv_stI, X_isTray_c, p1, Nat.reduceLeDiff, Tr_isMissing_c ht F (W t ht) (X t ht), q3]
    first | exact ⟨rfl, rfl⟩ | exact rfl
  · rw [if_neg q]
    simp (disch := omega) only [ix_lit, inB_lit, decide_true, Bool.true_or, Bool.or_true, true_and, and_true, kI_add, kI_sub, kI_mul, tn_add, Int.toNat_natCast, Int.reduceToNat, kI_le, kI_lt, kI_inj, decide_eq_true_eq, Bool.not_eq_true', decide_eq_false_iff_not, not_true_eq_false, not_false_eq_true, Classical.not_not, Bool.false_eq_true, if_true, if_false, z0, bI_k0, bI_k1, isB_b, isB_0, isB_1, kI_long, kd_stI, ln_stI, rv_stI, X_isTray_c, eq_false q]
    first | exact ⟨rfl, rfl⟩ | exact rfl
theorem M_perform_no {s : ST} {y : DY} {hs : List DY} {h : AH} (B : BM s y hs h) {w : TW} (X : MTs w h) (W : WTs w) {t : Int} (t1 : -2147483648 ≤ t) (t2 : t ≤ 2147483647) (no : ¬ ((0 ≤ t ∧ t < 4) ∧ w.1 t.toNat ≠ -1)) : GI 4 m_M_perform [.ref 88, .int (kI t)] h (kI (if 0 ≤ t ∧ t < 4 then -6 else -2)) (fun h' => h' = stI h 88 0 (kI 0)) := by
  have F := B.M.fix
  have e0 := f88 h
  have B0 := B.im e0
  have F0 := B0.M.fix
  have X0 := X.md (e0.mono (fun a k w => w.d) (fun _ _ w => w))
  have so := X0.so W
  refine GIo (s_M_perform_0 ?_)
  by_cases q : 0 ≤ t ∧ t < 4
  · rw [if_pos q]
    have p1 : (0 ≤ t ∧ t < 4) = True := eq_true q
    have q3 : w.1 t.toNat = -1 := Classical.byContradiction (fun z => no ⟨q, z⟩)
    simp (disch := omega) only [kd_88 F, kd_88 F0, ix_lit, inB_lit, decide_true, Bool.true_or, Bool.or_true, true_and, and_true, kI_add, kI_sub, kI_mul, tn_add, Int.toNat_natCast, Int.reduceToNat, kI_le, kI_lt, kI_inj, decide_eq_true_eq, Bool.not_eq_true', decide_eq_false_iff_not, not_true_eq_false, not_false_eq_true, Classical.not_not, Bool.false_eq_true, if_true, if_false, z0, bI_k0, bI_k1, isB_b, isB_0, isB_1, kI_long, kd_stI, ln_stI, rv_stI, M_noTray_c (show 2 ≤ 3 by omega) F0 t1 t2 so, p1, q3, Int.reduceEq]
    first | exact ⟨rfl, rfl⟩ | exact rfl
  · rw [if_neg q]
    simp (disch := omega) only [kd_88 F, kd_88 F0, ix_lit, inB_lit, decide_true, Bool.true_or, Bool.or_true, true_and, and_true, kI_add, kI_sub, kI_mul, tn_add, Int.toNat_natCast, Int.reduceToNat, kI_le, kI_lt, kI_inj, decide_eq_true_eq, Bool.not_eq_true', decide_eq_false_iff_not, not_true_eq_false, not_false_eq_true, Classical.not_not, Bool.false_eq_true, if_true, if_false, z0, bI_k0, bI_k1, isB_b, isB_0, isB_1, kI_long, kd_stI, ln_stI, rv_stI, M_noTray_c (show 2 ≤ 3 by omega) F0 t1 t2 so, eq_false q, Int.reduceEq]
    first | exact ⟨rfl, rfl⟩ | exact rfl
theorem X_night_no {h : AH} (x : Int32) {n : Int} (t1 : -2147483648 ≤ n) (t2 : n ≤ 2147483647) (no : ¬ (1 ≤ n ∧ n ≤ 40)) : GI 1 m_X_night [.ref 1, .int x, .int (kI n)] h (kI (-3)) (fun h' => h' = h) := by
  refine GIo (s_X_night_0 ?_)
  by_cases q : n < 1
  · simp (disch := omega) only [ix_lit, inB_lit, decide_true, Bool.true_or, Bool.or_true, true_and, and_true, kI_add, kI_sub, kI_mul, tn_add, Int.toNat_natCast, Int.reduceToNat, kI_le, kI_lt, kI_inj, decide_eq_true_eq, Bool.not_eq_true', decide_eq_false_iff_not, not_true_eq_false, not_false_eq_true, Classical.not_not, Bool.false_eq_true, if_true, if_false, z0, bI_k0, bI_k1, isB_b, isB_0, isB_1, kI_long, kd_stI, ln_stI, rv_stI, q]
    first | exact ⟨rfl, rfl⟩ | exact rfl
  · have q2 : ¬ n ≤ 40 := by omega
    simp (disch := omega) only [ix_lit, inB_lit, decide_true, Bool.true_or, Bool.or_true, true_and, and_true, kI_add, kI_sub, kI_mul, tn_add, Int.toNat_natCast, Int.reduceToNat, kI_le, kI_lt, kI_inj, decide_eq_true_eq, Bool.not_eq_true', decide_eq_false_iff_not, not_true_eq_false, not_false_eq_true, Classical.not_not, Bool.false_eq_true, if_true, if_false, z0, bI_k0, bI_k1, isB_b, isB_0, isB_1, kI_long, kd_stI, ln_stI, rv_stI, q, q2]
    first | exact ⟨rfl, rfl⟩ | exact rfl
theorem M_night_no {h : AH} (F : Fix h) (x : Int32) {n : Int} (t1 : -2147483648 ≤ n) (t2 : n ≤ 2147483647) (no : ¬ (1 ≤ n ∧ n ≤ 40)) : GI 2 m_M_night [.ref 88, .int x, .int (kI n)] h (kI (-3)) (fun h' => h' = stI h 88 0 (kI 0)) := by
  refine GIo (s_M_night_0 ?_)
  simp (disch := omega) only [kd_88 F, M_within_c, ix_lit, inB_lit, decide_true, Bool.true_or, Bool.or_true, true_and, and_true, kI_add, kI_sub, kI_mul, tn_add, Int.toNat_natCast, Int.reduceToNat, kI_le, kI_lt, kI_inj, decide_eq_true_eq, Bool.not_eq_true', decide_eq_false_iff_not, not_true_eq_false, not_false_eq_true, Classical.not_not, Bool.false_eq_true, if_true, if_false, z0, bI_k0, bI_k1, isB_b, isB_0, isB_1, kI_long, kd_stI, ln_stI, rv_stI, eq_false no]
  first | exact ⟨rfl, rfl⟩ | exact rfl
