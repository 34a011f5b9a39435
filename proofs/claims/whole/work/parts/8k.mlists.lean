/-! lists of the reference -/
def lisN (s : ST) (y : DY) (w : TW) (t a : Nat) : Nat := if (paF s y a a 1 0).length < w.2.1 t then (paF s y a a 1 0).length else w.2.1 t
def lisF (s : ST) (y : DY) (w : TW) (t a : Nat) (j : Nat) : Int := if j < lisN s y w t a then ((paF s y a a 1 0).getD j 0 : Nat) else w.2.2 t j
def lisNo (s : ST) (w : TW) (t a : Int) : Int := if (0 ≤ t ∧ t < 4) ∧ (0 ≤ a ∧ a < sH s) then -6 else -2
def lisOk (s : ST) (w : TW) (t a : Int) : Prop := ((0 ≤ t ∧ t < 4) ∧ (0 ≤ a ∧ a < sH s)) ∧ w.1 t.toNat ≠ -1
abbrev FLi (h h' : AH) : Prop := Fr (fun a k => IM a k ∨ a = 96 ∨ a = 98 ∨ a = 99) (fun a _ => a = 105) h h'
theorem MTs.rw {w : TW} {h h' : AH} (C : MTs w h) (e : FRw h h') : MTs w h' := fun t ht => (C t ht).fr e (fun k => by unfold IM; omega) (fun k w => w)
theorem stuck_ne {s : ST} (w : WFS s) {y : DY} (wy : WFY s y) {a : Nat} : WT s y a a 1 0 (yD y) (yL y) ≠ 1048576 := by
  have := WT_01 w (y := y) (a := a) (b := a) (tg := 0) (l := yL y) (aim := 1) (Or.inr rfl) (wy.m12 w)
  have := pop_le (yD y)
  omega
theorem M_lists_no {s : ST} {y : DY} {h : AH} (C0 : MC s y h) {w : TW} (X : MTs w h) (W : WTs w) {t a : Int} (t1 : -2147483648 ≤ t) (t2 : t ≤ 2147483647) (a1 : -2147483648 ≤ a) (a2 : a ≤ 2147483647) (no : ¬ lisOk s w t a) : GI 9 m_M_lists [.ref 88, .int (kI t), .int (kI a)] h (kI (lisNo s w t a)) (fun h' => h' = stI h 88 0 (kI 0)) := by
  have F := C0.fix
  have e0 := f88 h
  have C : MC s y (stI h 88 0 (kI 0)) := C0.fr e0
  have X0 : MTs w (stI h 88 0 (kI 0)) := X.im e0
  refine GIo (s_M_lists_0 ?_)
  refine ⟨by rw [kd_88 F]; rfl, ?_⟩
  unfold lisNo
  rw [kI_long t1 t2, M_within_c (by omega) (by omega) (by omega) (by omega) (by omega) (by omega) (by omega)]
  by_cases q1 : 0 ≤ t ∧ t < 4
  · rw [if_neg (by rw [dec_b0]; exact fun z => z (by omega))]
    refine ⟨by rw [kd_88 C.fix]; rfl, ?_⟩
    rw [kI_long a1 a2, M_isHand_c C (by omega) (by omega) (by omega)]
    by_cases q2 : 0 ≤ a ∧ a < sH s
    · rw [if_pos (by rw [Bool.not_eq_true', decide_eq_false_iff_not, bI_0]; exact fun z => z q2), if_pos ⟨q1, q2⟩]
      refine ⟨by rw [kd_88 C.fix]; rfl, ?_⟩
      have q3 : w.1 t.toNat = -1 := by
        by_cases z : w.1 t.toNat = -1
        · exact z
        · exact absurd ⟨⟨q1, q2⟩, z⟩ no
      rw [M_noTray_c (by omega) C.fix t1 t2 (X0.so W), if_pos q1, if_pos q3, if_neg (by decide)]
      exact ⟨rfl, rfl⟩
    · rw [if_neg (by rw [Bool.not_eq_true', decide_eq_false_iff_not, bI_0]; exact fun z => z q2), if_neg (fun z => q2 z.2)]
      exact ⟨rfl, rfl⟩
  · rw [if_pos (by rw [dec_b0]; omega), if_neg (fun z => q1 z.1)]
    exact ⟨rfl, rfl⟩
theorem M_lists_g {s : ST} {y : DY} {h : AH} (C0 : MC s y h) {w : TW} (X : MTs w h) (W : WTs w) {t a : Nat} (ht : t < 4) (q3 : w.1 t ≠ -1) (ha : a < sH s) : GI 9 m_M_lists [.ref 88, .int (kI t), .int (kI a)] h (kI (lisN s y w t a : Nat)) (fun h' => FLi h h' ∧ MTs (upT w t (w.1 t) (w.2.1 t) (lisF s y w t a)) h') := by
  have F := C0.fix
  have e0 := f88 h
  have C : MC s y (stI h 88 0 (kI 0)) := C0.fr e0
  have X0 : MTs w (stI h 88 0 (kI 0)) := X.im e0
  have n4 := C.wf.2.2.2.2.2.1
  have Wt := W t ht
  have n40 := Wt.2.2.1
  refine GIo (s_M_lists_0 ?_)
  refine ⟨by rw [kd_88 F]; rfl, ?_⟩
  rw [kI_long (by omega) (by omega), M_within_c (by omega) (by omega) (by omega) (by omega) (by omega) (by omega) (by omega), if_neg (by rw [dec_b0]; exact fun z => z (by omega))]
  refine ⟨by rw [kd_88 C.fix]; rfl, ?_⟩
  rw [kI_long (by omega) (by omega), M_isHand_c C (by omega) (by omega) (by omega), if_pos (by rw [Bool.not_eq_true', decide_eq_false_iff_not, bI_0]; exact fun z => z (by omega))]
  refine ⟨by rw [kd_88 C.fix]; rfl, ?_⟩
  have et : (if 0 ≤ (t : Int) ∧ (t : Int) < 4 then (if w.1 (t : Int).toNat = -1 then -6 else 0) else -2 : Int) = 0 := by rw [if_pos (by omega), Int.toNat_natCast, if_neg q3]
  rw [M_noTray_c (by omega) C.fix (by omega) (by omega) (X0.so W), et, if_pos (by decide)]
  refine ⟨by rw [kd_88 C.fix]; rfl, ?_⟩
  have ne := stuck_ne C.wf C.wy (a := a)
  refine GI.use (M_laysRow_g C (a := a) (aim := 1) (tg := 0) (g := -1) (by omega) (by unfold GoalOk; omega) (by omega)) (by omega) (fun h3 e3 => ?_)
  obtain ⟨e3, R3⟩ := e3
  replace R3 := R3 ne
  have C3 := C.rw e3
  have F3 := C3.fix
  have X3 := X0.rw e3
  have f3 : FRw h h3 := e3.f0
  have sc := sc_len C.wf C.wy (a := a) (aim := 1) (tg := 0) (by omega) (by omega) ne
  unfold scA at sc
  rw [sc]
  have pl := pa_le s y a a 1 0
  have Xt := X3 t ht
  have x4 := (Xt.2 q3).1
  obtain ⟨pa, hpa⟩ : ∃ pa, pa = paF s y a a 1 0 := ⟨_, rfl⟩
  rw [← hpa] at pl
  have pm : ∀ i, i < pa.length → pa.getD i 0 < 12 := fun i hi => by
    have := pa_get C.wf (y := y) (a := a) (b := a) (aim := 1) (tg := 0) (i := i) (by rw [← hpa]; exact hi)
    have := C.wf.n12
    rw [hpa]; omega
  have lN : lisN s y w t a = if pa.length < w.2.1 t then pa.length else w.2.1 t := by unfold lisN; rw [hpa]
  have key : Safe 8 m_M_lists (77, [.ref 88, .int (kI (t : Int)), unV, unV, .int (kI (lisN s y w t a : Nat)), .int (kI 0)], [], h3) (fun v h' => Eqv v (some (.int (kI (lisN s y w t a : Nat)))) ∧ FLi h h' ∧ MTs (upT w t (w.1 t) (w.2.1 t) (lisF s y w t a)) h') := by
    have le1 : lisN s y w t a ≤ pa.length ∧ lisN s y w t a ≤ w.2.1 t := by rw [lN]; split <;> omega
    suffices H : ∀ k, k ≤ lisN s y w t a → ∀ h4, Fr I0 (fun a _ => a = 105) h3 h4 → (∀ j, j < k → jvA h4 105 (40 * t + j) = kJ (pa.getD j 0 : Nat)) → (∀ j, (∀ i, i < k → j ≠ 40 * t + i) → jvA h4 105 j = jvA h3 105 j) → Safe 8 m_M_lists (77, [.ref 88, .int (kI (t : Int)), unV, unV, .int (kI (lisN s y w t a : Nat)), .int (kI k)], [], h4) (fun v h' => Eqv v (some (.int (kI (lisN s y w t a : Nat)))) ∧ FLi h h' ∧ MTs (upT w t (w.1 t) (w.2.1 t) (lisF s y w t a)) h') by
      exact H 0 (by omega) h3 (Fr_rfl _ _ _) (fun j hj => by omega) (fun j _ => rfl)
    refine down_ind (lisN s y w t a) ?_ ?_
    · intro h4 e4 A4 B4
      refine s_M_lists_77 ?_
      rw [if_pos (by rw [decide_eq_true_eq, kI_le (by omega) (by omega) (by omega) (by omega)]; omega)]
      have iv4 : ∀ a k, ivA h4 a k = ivA h3 a k := fun a k => e4.2.2.2.2.2.1 a k (fun w => w)
      refine ⟨rfl, (f3.mono (fun _ _ w => w) (fun _ _ w => w.elim)).trans (e4.mono (fun _ _ w => w.elim) (fun _ _ w => w)), upT_m ht W X3 (fun u q hu => ⟨iv4 _ _, iv4 _ _, fun j hj => B4 _ (fun i hi => by omega)⟩) ⟨by rw [iv4]; exact Xt.1, fun _ => ⟨by rw [iv4]; exact x4, fun j hj => ?_⟩⟩⟩
      unfold lisF
      by_cases q : j < lisN s y w t a
      · rw [if_pos q, A4 j q, hpa]
      · rw [if_neg q, B4 _ (fun i hi => by omega)]
        exact (Xt.2 q3).2 j hj
    · intro k hk ih h4 e4 A4 B4
      have F4 := e4.fix F3
      have iv4 : ∀ a k, ivA h4 a k = ivA h3 a k := fun a k => e4.2.2.2.2.2.1 a k (fun w => w)
      have pk := pm k (by omega)
      refine s_M_lists_77 ?_
      rw [if_neg (by rw [decide_eq_true_eq, kI_le (by omega) (by omega) (by omega) (by omega)]; omega), kd_88 F4, rv_88_24 F4, kd_99 F4, ln_99 F4, rv_88_30 F4, kd_105 F4, ln_105 F4, ix_kI (by omega), iv4, R3 k (by rw [← hpa]; omega), ← hpa, kI_long (by omega) (by omega), kI_mul, kI_add, kI_add]
      have ei2 : ix (kI (40 * (t : Int) + k)) = 40 * t + k := by
        rw [show 40 * (t : Int) + k = ((40 * t + k : Nat) : Int) by omega]
        exact ix_kI (by omega)
      have eb2 : inB (kI (40 * (t : Int) + k)) 160 = true := inB_lit (by omega) (by omega) (by omega)
      rw [ei2]
      refine ⟨rfl, rfl, rfl, inB_kI (by omega) (by omega), rfl, eb2, ?_⟩
      refine ih _ (e4.stJ rfl _) (fun j hj => ?_) (fun j hj => ?_)
      · rw [jv_stJ]
        by_cases q : j = k
        · rw [if_pos ⟨rfl, by omega⟩, q]
        · rw [if_neg (by omega)]
          exact A4 j (by omega)
      · rw [jv_stJ, if_neg (fun z => hj k (by omega) z.2)]
        exact B4 j (fun i hi => hj i (by omega))
  rw [kd_88 F3, rv_88_29 F3, kd_104 F3, ln_104 F3, ix_kI (by omega), x4, ← hpa]
  refine ⟨rfl, rfl, inB_kI (by omega) (by omega), ?_⟩
  rw [lN] at key
  rw [lN]
  by_cases q : pa.length < w.2.1 t
  · rw [if_neg (by rw [decide_eq_true_eq, kI_le (by omega) (by omega) (by omega) (by omega)]; omega)]
    rw [if_pos q] at key ⊢
    exact key
  · rw [if_pos (by rw [decide_eq_true_eq, kI_le (by omega) (by omega) (by omega) (by omega)]; omega)]
    rw [if_neg q] at key ⊢
    exact ⟨rfl, rfl, inB_kI (by omega) (by omega), key⟩
