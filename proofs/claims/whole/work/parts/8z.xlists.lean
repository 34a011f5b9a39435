/-! lists of the program -/
def OutL (T : Nat → Nat) (R : Nat → ST) (s : ST) (p : Nat) (y : DY) (v : Int) (w : TW) (h h' : AH) : Prop := FN (fun x => APt T x ∨ (74 ≤ x ∧ x ≤ 81)) h h' ∧ Fix h' ∧ Rm h h' ∧ PI T R s p y v h' ∧ XTs w h'
theorem cut_small {so : Int} {c : Nat} (hc : c < 12) : (cutF so (kJ c)).toInt = c := by
  have key : ∀ c : Fin 12, (kJ (c.val : Int)).toInt32.toInt8.toInt32.toInt64.toInt = (c.val : Int) ∧ (kJ (c.val : Int)).toInt32.toInt16.toInt32.toInt64.toInt = (c.val : Int) ∧ (kJ (c.val : Int)).toInt32.toInt64.toInt = (c.val : Int) ∧ (kJ (c.val : Int)).toInt = (c.val : Int) := by decide +kernel
  have k := key ⟨c, hc⟩
  unfold cutF
  split
  · exact k.1
  · split
    · exact k.2.1
    · split
      · exact k.2.2.1
      · exact k.2.2.2
theorem Slv.j {s : ST} {y : DY} {a b aim tg : Nat} {J : Nat → Nat → Prop} {h h' : AH} (S : Slv s y a b aim tg h) (e : Fr I0 J h h') : Slv s y a b aim tg h' := by
  have i : ∀ x k, ivA h' x k = ivA h x k := fun x k => e.2.2.2.2.2.1 x k (fun w => w)
  refine ⟨S.ok, by rw [i]; exact S.i12, by rw [i]; exact S.i13, by rw [i]; exact S.i14, ?_, by rw [i]; exact S.i17, fun k hk => by rw [i]; exact S.st k hk⟩
  rw [e.2.2.1]
  intro m l h1 h2 h3
  rw [i]
  exact S.V m l h1 h2 h3
theorem X_lists_no {T : Nat → Nat} {s : ST} {p : Nat} {y : DY} {v : Int} {hs : List DY} {nx : Nat} {h : AH} (B : BX T s p y v hs nx h) {w : TW} (X : XTs w h) (W : WTs w) {t a : Int} (t1 : -2147483648 ≤ t) (t2 : t ≤ 2147483647) (a1 : -2147483648 ≤ a) (a2 : a ≤ 2147483647) (no : ¬ lisOk s w t a) : GI 10 m_X_lists [.ref 1, .int (kI t), .int (kI a)] h (kI (lisNo s w t a)) (fun h' => h' = h) := by
  have F := B.F
  have gd := gd_begin B
  refine GIo (s_X_lists_0 ?_)
  unfold lisNo
  rw [X_isTray_c (by omega) t1 t2]
  by_cases q1 : 0 ≤ t ∧ t < 4
  · rw [if_neg (by rw [dec_b0]; exact fun z => z q1), gd.1, gd.2.2.2.1, gd.2.2.2.2.2]
    refine ⟨rfl, rfl, ?_⟩
    rw [Sh_hasHand_c B.S (by omega) a1 a2]
    by_cases q2 : 0 ≤ a ∧ a < sH s
    · rw [if_pos (by rw [Bool.not_eq_true', decide_eq_false_iff_not, bI_0]; exact fun z => z q2), if_pos ⟨q1, q2⟩]
      obtain ⟨t, rfl⟩ := Int.eq_ofNat_of_zero_le q1.1
      have ht : t < 4 := by omega
      have Tf := tr_fix F ht
      have q3 : w.1 t = -1 := by
        by_cases z : w.1 t = -1
        · exact z
        · exact absurd ⟨⟨q1, q2⟩, by rw [Int.toNat_natCast]; exact z⟩ no
      rw [gd.1, rv_1_11 F, kd_73 F, ln_73 F, ix_kI (by omega), Tf.1, Tf.2.1, Tr_isMissing_c ht F (W t ht) (X t ht) (by omega), if_neg (by rw [dec_b0]; exact fun z => z q3)]
      exact ⟨rfl, rfl, rfl, inB_kI (by omega) (by omega), rfl, rfl, rfl⟩
    · rw [if_neg (by rw [Bool.not_eq_true', decide_eq_false_iff_not, bI_0]; exact fun z => z q2), if_neg (fun z => q2 z.2)]
      exact ⟨rfl, rfl⟩
  · rw [if_pos (by rw [dec_b0]; exact q1), if_neg (fun z => q1 z.1)]
    exact ⟨rfl, rfl⟩
theorem X_lists_g {T : Nat → Nat} {R : Nat → ST} {s : ST} {p : Nat} {y : DY} {v : Int} {hs : List DY} {nx : Nat} {h : AH} (X : XI T R s p y v hs nx h) {w : TW} (Xt0 : XTs w h) (W : WTs w) {t a : Nat} (ht : t < 4) (q3 : w.1 t ≠ -1) (ha : a < sH s) : GI 10 m_X_lists [.ref 1, .int (kI t), .int (kI a)] h (kI (lisN s y w t a : Nat)) (OutL T R s p y v (upT w t (w.1 t) (w.2.1 t) (lisF s y w t a)) h) := by
  have B := X.B
  have F := B.F
  have n2 := B.S.wf.n12
  have n4 := B.S.wf.2.2.2.2.2.1
  have gd := gd_begin B
  have Tf := tr_fix F ht
  have Wt := W t ht
  have n40 := Wt.2.2.1
  refine GIo (s_X_lists_0 ?_)
  rw [X_isTray_c (by omega) (by omega) (by omega), if_neg (by rw [dec_b0]; exact fun z => z (by omega)), gd.1, gd.2.2.2.1, gd.2.2.2.2.2]
  refine ⟨rfl, rfl, ?_⟩
  rw [Sh_hasHand_c B.S (by omega) (by omega) (by omega), if_pos (by rw [Bool.not_eq_true', decide_eq_false_iff_not, bI_0]; exact fun z => z (by omega)), gd.1, rv_1_11 F, kd_73 F, ln_73 F, ix_kI (by omega), Tf.1, Tf.2.1, Tr_isMissing_c ht F Wt (Xt0 t ht) (by omega), if_pos (by rw [dec_b0]; exact q3)]
  refine ⟨rfl, rfl, rfl, inB_kI (by omega) (by omega), rfl, ?_⟩
  rw [gd.1, gd.2.1, gd.2.2.1, gd.2.2.2.1, gd.2.2.2.2.1]
  refine ⟨rfl, rfl, rfl, rfl, ?_⟩
  refine X_begin B X.I X.v0 X.v1 X.hz ha ha (by omega) (fun h1 O1 g1 j1 => ?_)
  have gd1 := gd_begin (B.pt O1.1 O1.2.1)
  rw [gd1.1, gd1.2.1, gd1.2.2.1]
  refine ⟨rfl, rfl, ?_⟩
  refine X_solve O1 X.hz B.t g1 j1 X.v0 (aim := 1) (tg := 0) ⟨by omega, by omega, by omega, by omega⟩ (by omega) (fun h2 O2 g2 S2 => ?_)
  have B2 := B.pt O2.1 O2.2.1
  have F2 := B2.F
  have Tf2 := tr_fix F2 ht
  have gd2 := gd_begin B2
  have ne := stuck_ne B.S.wf B.wy (a := a)
  have sc := sc_len B.S.wf B.wy (a := a) (aim := 1) (tg := 0) (by omega) (by omega) ne
  unfold scA at sc
  rw [rr_012 (by omega), if_neg ne] at sc
  have pl := pa_le s y a a 1 0
  have et : trL s y a a 1 0 = paF s y a a 1 0 := by unfold trL; rw [if_neg (by omega)]
  obtain ⟨pa, hpa⟩ : ∃ pa, pa = paF s y a a 1 0 := ⟨_, rfl⟩
  rw [← hpa] at pl sc
  have pm : ∀ i, i < pa.length → pa.getD i 0 < 12 := fun i hi => by
    have := pa_get B.S.wf (y := y) (a := a) (b := a) (aim := 1) (tg := 0) (i := i) (by rw [← hpa]; exact hi)
    rw [hpa]; omega
  have X2 : XTs w h2 := Xt0.fn F O2.1 (fun x z => by have := APt_out B.t z; omega)
  have Xt := X2 t ht
  have sz := Xt.sz q3
  have lN : lisN s y w t a = if pa.length < w.2.1 t then pa.length else w.2.1 t := by unfold lisN; rw [hpa]
  have le1 : lisN s y w t a ≤ pa.length ∧ lisN s y w t a ≤ w.2.1 t := by rw [lN]; split <;> omega
  have key : Safe 9 m_X_lists (78, [.ref 1, .int (kI (t : Int)), unV, .int (kI (lisN s y w t a : Nat)), .int (kI 0)], [], h2) (fun x h' => Eqv x (some (.int (kI (lisN s y w t a : Nat)))) ∧ OutL T R s p y v (upT w t (w.1 t) (w.2.1 t) (lisF s y w t a)) h h') := by
    suffices H : ∀ k, k ≤ lisN s y w t a → ∀ h4, Fr I0 (fun a _ => a = 75 + 2 * t) h2 h4 → XT t (w.1 t) (w.2.1 t) (fun j => if j < k then ((pa.getD j 0 : Nat) : Int) else w.2.2 t j) h4 → Safe 9 m_X_lists (78, [.ref 1, .int (kI (t : Int)), unV, .int (kI (lisN s y w t a : Nat)), .int (kI k)], [], h4) (fun x h' => Eqv x (some (.int (kI (lisN s y w t a : Nat)))) ∧ OutL T R s p y v (upT w t (w.1 t) (w.2.1 t) (lisF s y w t a)) h h') by
      exact H 0 (by omega) h2 (Fr_rfl _ _ _) (by
        have : (fun j => if j < 0 then ((pa.getD j 0 : Nat) : Int) else w.2.2 t j) = w.2.2 t := by funext j; rw [if_neg (by omega)]
        rw [this]
        exact Xt)
    refine down_ind (lisN s y w t a) ?_ ?_
    · intro h4 e4 A4
      refine s_X_lists_78 ?_
      rw [if_pos (by rw [decide_eq_true_eq, kI_le (by omega) (by omega) (by omega) (by omega)]; omega)]
      have ef : lisF s y w t a = fun j => if j < lisN s y w t a then ((pa.getD j 0 : Nat) : Int) else w.2.2 t j := by funext j; unfold lisF; rw [hpa]
      have i4 := O2.2.2.2.fr F2 B.t e4 (fun x _ z => z.elim) (fun x _ z => Or.inr ⟨by rw [B.t.two (a := x) (by omega) (by omega)]; omega, by omega, by omega⟩)
      refine ⟨rfl, (O2.1.mono (fun _ z => Or.inl z)).trans (e4.fn (fun _ _ z => z.elim) (fun x _ z => Or.inr (by omega))), e4.fix F2, Rm_trans O2.2.2.1 (by rw [i4.2, e4.2.2.2.2.1]; exact Nat.le_refl _) (by rw [e4.2.2.2.1]; exact Nat.le_refl _), i4.1, upT_x X2 (fun x k z1 z2 => ⟨e4.2.2.2.2.2.1 x k (fun z => z), e4.2.2.2.2.2.2 x k z2⟩) ?_⟩
      rw [ef]
      exact A4
    · intro k hk ih h4 e4 A4
      have F4 := e4.fix F2
      have Tf4 := tr_fix F4 ht
      have pk := pm k (by omega)
      have W4 : WFT (w.1 t) (w.2.1 t) (fun j => if j < k then ((pa.getD j 0 : Nat) : Int) else w.2.2 t j) := ⟨Wt.1, Wt.2.1, Wt.2.2.1, fun i => by
        have := Wt.2.2.2 i
        by_cases z : i < k
        · have := pm i (by omega)
          simp only [if_pos z]
          omega
        · simp only [if_neg z]
          exact this⟩
      refine s_X_lists_78 ?_
      rw [if_neg (by rw [decide_eq_true_eq, kI_le (by omega) (by omega) (by omega) (by omega)]; omega), kd_1 F4, rv_1_11 F4, kd_73 F4, ln_73 F4, rv_1_8 F4, kd_57 F4, ix_kI (by omega), Tf4.1, Pa_step_c F4 (S2.j e4) (by omega) (by omega) (by omega), et, ← hpa, if_pos (show 0 ≤ (k : Int) ∧ (k : Int) < pa.length by omega), Int.toNat_natCast, Tf4.2.1, kI_long (by omega) (by omega)]
      refine ⟨rfl, rfl, rfl, inB_kI (by omega) (by omega), rfl, rfl, rfl, ?_⟩
      refine GJ.use (Tr_put_g ht F4 W4 A4 q3 (i := k) (by omega) _) (by omega) (fun h5 e5 => ?_)
      rw [kI_add]
      refine ih h5 (e4.trans e5.1) ?_
      have ef : (fun j => if j < k + 1 then ((pa.getD j 0 : Nat) : Int) else w.2.2 t j) = fun j => if j = k then (cutF (w.1 t) (kJ (pa.getD k 0 : Nat))).toInt else if j < k then ((pa.getD j 0 : Nat) : Int) else w.2.2 t j := by
        funext j
        rw [cut_small pk]
        by_cases z : j = k
        · rw [if_pos z, if_pos (by omega), z]
        · rw [if_neg z]
          by_cases z2 : j < k
          · rw [if_pos z2, if_pos (by omega)]
          · rw [if_neg z2, if_neg (by omega)]
      rw [ef]
      exact e5.2
  rw [gd2.1, rv_1_11 F2, kd_73 F2, ln_73 F2, Tf2.1, Tf2.2.1, sz, sc]
  refine ⟨rfl, rfl, rfl, inB_kI (by omega) (by omega), rfl, ?_⟩
  have em : (if kI (w.2.1 t : Int) < kI (pa.length : Int) then kI (w.2.1 t : Int) else kI (pa.length : Int)) = kI (lisN s y w t a : Nat) := by
    rw [lN]
    by_cases q : pa.length < w.2.1 t
    · rw [if_pos q, if_neg (by rw [kI_lt (by omega) (by omega) (by omega) (by omega)]; omega)]
    · rw [if_neg q]
      by_cases q2 : w.2.1 t < pa.length
      · rw [if_pos (by rw [kI_lt (by omega) (by omega) (by omega) (by omega)]; omega)]
      · rw [if_neg (by rw [kI_lt (by omega) (by omega) (by omega) (by omega)]; omega), show pa.length = w.2.1 t by omega]
  rw [em]
  exact key
