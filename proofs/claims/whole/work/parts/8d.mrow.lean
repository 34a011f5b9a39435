/-! the reference's rows -/
abbrev FRw (h h' : AH) : Prop := Fr (fun a k => IM a k ∨ a = 96 ∨ a = 98 ∨ a = 99) JM h h'
theorem MC.rw {s : ST} {y : DY} {h h' : AH} (C : MC s y h) (e : FRw h h') : MC s y h' := C.scr e (fun k w => by unfold IM at w; omega)
theorem Mays.fr {s : ST} {y : DY} {hd a0 k : Nat} {I J : Nat → Nat → Prop} {h h' : AH} (M : Mays s y hd a0 k h) (e : Fr I J h h') (n : ∀ k, ¬ I a0 k) : Mays s y hd a0 k h' := fun m l h1 h2 h3 cb => by rw [e.2.2.2.2.2.1 _ _ (n _)]; exact M m l h1 h2 h3 cb
theorem Stl.fr {s : ST} {y : DY} {a b aim tg k : Nat} {I J : Nat → Nat → Prop} {h h' : AH} (M : Stl s y a b aim tg k h) (e : Fr I J h h') (n : ∀ k, ¬ I 98 k) : Stl s y a b aim tg k h' := fun m l h1 h2 h3 cb => by rw [e.2.2.2.2.2.1 _ _ (n _)]; exact M m l h1 h2 h3 cb
theorem rr_012 {aim : Nat} (ha : aim ≤ 2) (v : Int) : rr aim v = if v = 1048576 then -1 else v := by
  unfold rr
  rw [if_neg (by omega)]
  by_cases q : v = 1048576
  · rw [if_pos q, if_pos q, if_neg (by omega)]
  · rw [if_neg q, if_neg q]
theorem GoalOk.a {aim tg : Nat} {g : Int} (h : GoalOk aim tg g) : aim ≤ 2 := by unfold GoalOk at h; omega
/-- what the reference asks of a step is what leads on -/
theorem ld_still {s : ST} (w : WFS s) {y : DY} {a aim tg m l c : Nat} {g : Int} (hg : GoalOk aim tg g) (hm : m < 4096) (hc : c < 12) (hb : (mvG s y a a m l).testBit c = true) (hv : WT s y a a aim tg m l ≠ 1048576) : ldB s y a a aim tg m l c = true ↔ (¬ (aim = 0 ∧ (c : Int) = g) ∧ (if aim = 2 ∧ (c : Int) = g then 1 else if rr aim (WT s y a a aim tg (m ||| 2 ^ c) c) = -1 then -1 else rr aim (WT s y a a aim tg (m ||| 2 ^ c) c) + 1) = WT s y a a aim tg m l) := by
  have ha := hg.a
  have g1 := WT_gd w (y := y) (a := a) (b := a) (aim := aim) (tg := tg) (l := c) (by omega) (or_4096 hm hc)
  have g2 := WT_gd w (y := y) (a := a) (b := a) (aim := aim) (tg := tg) (l := l) (by omega) hm
  have p1 := pop_le m
  have eq := WT_eq w (y := y) (a := a) (b := a) (aim := aim) (tg := tg) (l := l) hm
  unfold ldB
  rw [hb, Bool.true_and, rr_012 ha]
  unfold Gd at g1 g2
  have wc : wcF s y aim c = 1 := by unfold wcF; rw [if_neg (by omega)]
  rw [wc]
  unfold GoalOk at hg
  by_cases q0 : aim = 0
  · by_cases q1 : c = tg
    · rw [if_pos ⟨q1, Or.inr q0⟩]
      constructor
      · intro z; rw [q0] at z; cases z
      · intro z; exact absurd ⟨q0, by omega⟩ z.1
    · rw [if_neg (fun z => q1 z.1), decide_eq_true_eq, if_neg (by omega)]
      have b0 := WT_01 w (y := y) (a := a) (b := a) (aim := aim) (tg := tg) (l := c) (Or.inl q0) (or_4096 hm hc)
      have p2 := pop_le (m ||| 2 ^ c)
      rw [if_neg (show ¬ WT s y a a aim tg (m ||| 2 ^ c) c = 1048576 by omega), if_neg (by omega)]
      constructor
      · intro z; exact ⟨by omega, by omega⟩
      · intro z; omega
  · by_cases q2 : aim = 2 ∧ c = tg
    · rw [if_pos ⟨q2.2, Or.inl q2.1⟩, if_pos ⟨q2.1, by omega⟩]
      have : WT s y a a aim tg m l = 1 := by
        rw [eq]
        show Vf (mvG s y a a) (yD y) (odF s y) aim tg m l _ = 1
        unfold Vf
        rw [q2.1, if_neg (by omega), if_neg (by omega), if_pos rfl, if_pos (by rw [← q2.2]; exact hb)]
      rw [this]
      constructor
      · intro _; exact ⟨by omega, rfl⟩
      · intro _; rw [q2.1]; rfl
    · rw [if_neg (by omega), decide_eq_true_eq, if_neg (by omega)]
      by_cases q3 : WT s y a a aim tg (m ||| 2 ^ c) c = 1048576
      · rw [if_pos q3, if_pos rfl, q3]
        constructor
        · intro z; omega
        · intro z
          have := z.2
          omega
      · rw [if_neg q3, if_neg (by omega)]
        constructor
        · intro z; exact ⟨by omega, by omega⟩
        · intro z; omega
theorem M_laysRow_g {s : ST} {y : DY} {h : AH} (C : MC s y h) {a aim tg : Nat} {g : Int} (hh : a < 4) (hg : GoalOk aim tg g) (hun : aim = 2 → (yD y).testBit tg = false) : GI 8 m_M_laysRow [.ref 88, .int (kI a), .int (kI aim), .int (kI g)] h (kI (rr aim (WT s y a a aim tg (yD y) (yL y)))) (fun h' => FRw h h' ∧ (WT s y a a aim tg (yD y) (yL y) ≠ 1048576 → ∀ i, i < (paF s y a a aim tg).length → ivA h' 99 i = kI ((paF s y a a aim tg).getD i 0 : Nat))) := by
  have F := C.fix
  have n2 := C.wf.n12
  have ha := hg.a
  have hD := C.wy.m12 C.wf
  have hD2 := C.wy.1
  have hL := C.wy.l12 C.wf
  have p12 : 2 ^ sN s ≤ 2 ^ 12 := Nat.pow_le_pow_right (by omega) n2
  have p12' : (2 : Nat) ^ 12 = 4096 := rfl
  refine GIo (s_M_laysRow_0 ?_)
  refine ⟨by rw [kd_88 F]; rfl, by rw [kd_88 F]; rfl, ?_⟩
  rw [rv_88_21 F]
  refine GV.use (M_laysMays_g C hh (Or.inl rfl)) (by omega) (fun h1 e1 => ?_)
  obtain ⟨e1, M1⟩ := e1
  have C1 := C.my e1 (by omega)
  have F1 := C1.fix
  refine ⟨by rw [kd_88 F1]; rfl, ?_⟩
  refine GI.use (M_laysStill_g C1 hg M1) (by omega) (fun h2 e2 => ?_)
  obtain ⟨e2, S2⟩ := e2
  have C2 : MC s y h2 := C1.scr e2 (fun k w => by omega)
  have F2 := C2.fix
  have M2 : Mays s y a 96 (yD y) h2 := M1.fr e2 (fun k => by omega)
  have f2 : FRw h h2 := (e1.mono (fun a k w => by rcases w with w | w; exact Or.inl w; exact Or.inr (Or.inl w)) (fun _ _ w => w)).trans (e2.mono (fun a k w => Or.inr (Or.inr (Or.inl w))) (fun _ _ w => w))
  refine ⟨by rw [kd_88 F2]; rfl, ?_⟩
  rw [M_standNow_c C2 (by omega)]
  have gs := WT_gd C.wf (y := y) (a := a) (b := a) (aim := aim) (tg := tg) (l := yL y) (by omega) hD
  have hp := pop_le (yD y)
  unfold Gd at gs
  by_cases hv : WT s y a a aim tg (yD y) (yL y) = 1048576
  · rw [hv, rr_012 ha, if_pos rfl]
    refine s_M_laysRow_26 ?_
    rw [if_pos (by decide)]
    exact ⟨rfl, f2, fun z => absurd rfl z⟩
  · rw [rr_012 ha, if_neg hv]
    have len : ((paF s y a a aim tg).length : Int) = WT s y a a aim tg (yD y) (yL y) := pt_len C.wf ha 12 (yD y) (yL y) hD (by omega) hun (fun _ => hv)
    obtain ⟨pa, hpa⟩ : ∃ pa, pa = paF s y a a aim tg := ⟨_, rfl⟩
    have lep : pa.length ≤ 12 := by rw [hpa]; exact pt_le 12 _ _
    rw [← len, ← hpa]
    rw [← hpa] at len
    suffices H : ∀ i, i ≤ pa.length → ∀ m l h3, FRw h h3 → Mays s y a 96 (yD y) h3 → Stl s y a a aim tg (yD y) h3 → cbP y m l → m < 2 ^ sN s → l ≤ 12 → i ≤ pop m → ptF s y a a aim tg (12 - i) m l = pa.drop i → (aim = 2 → m.testBit tg = false → WT s y a a aim tg m l ≠ 1048576) → (∀ j, j < i → ivA h3 99 j = kI (pa.getD j 0 : Nat)) → Safe 7 m_M_laysRow (26, [.ref 88, unV, .int (kI aim), .int (kI g), .int (kI (pa.length : Int)), .int (kI ((13 * m + l : Nat) : Int)), .int (kI i), unV], [], h3) (fun v h' => Eqv v (some (.int (kI (pa.length : Int)))) ∧ FRw h h' ∧ ((pa.length : Int) ≠ 1048576 → ∀ i, i < pa.length → ivA h' 99 i = kI (pa.getD i 0 : Nat))) by
      exact H 0 (by omega) (yD y) (yL y) h2 f2 M2 S2 ⟨subB_iff.mpr (subB_refl _), Or.inl ⟨rfl, rfl⟩⟩ hD2 hL (by omega) (by rw [hpa]; rfl) (fun _ _ => hv) (fun j hj => by omega)
    refine down_ind pa.length ?_ ?_
    · intro m l h3 f3 M3 S3 cb hm hl ip hq hne R3
      refine s_M_laysRow_26 ?_
      rw [if_pos (by rw [decide_eq_true_eq, kI_le (by omega) (by omega) (by omega) (by omega)]; omega)]
      exact ⟨rfl, f3, fun _ => R3⟩
    · intro i hi ih m l h3 f3 M3 S3 cb hm hl ip hq hne R3
      refine s_M_laysRow_26 ?_
      rw [if_neg (by rw [decide_eq_true_eq, kI_le (by omega) (by omega) (by omega) (by omega)]; omega)]
      have C3 := C.rw f3
      have F3 := C3.fix
      -- the step
      obtain ⟨k0, hk0⟩ : ∃ k0, 12 - i = k0 + 1 := ⟨11 - i, by omega⟩
      rw [hk0, ptF_s] at hq
      have nonil : pa.drop i ≠ [] := fun z => by
        have := congrArg List.length z
        rw [List.length_drop] at this
        simp at this
        omega
      by_cases he : endB y aim tg m = true
      · rw [if_pos he] at hq; exact absurd hq.symm nonil
      · rw [if_neg he] at hq
        cases ec : fsF (ldB s y a a aim tg m l) 0 12 with
        | none => rw [ec] at hq; exact absurd hq.symm nonil
        | some c =>
          rw [ec] at hq
          have hq2 : c :: ptF s y a a aim tg k0 (m ||| 2 ^ c) c = pa.drop i := hq
          have hlack : aim = 2 → m.testBit tg = false := fun e => by
            cases q : m.testBit tg
            · rfl
            · exfalso; apply he; unfold endB; rw [e, q]; rfl
          have hne' : aim = 2 → WT s y a a aim tg m l ≠ 1048576 := fun e => hne e (hlack e)
          have m12 : m < 4096 := by omega
          have wl := pt_len C.wf (y := y) (a := a) (b := a) (aim := aim) (tg := tg) ha (12 - i) m l m12 (by omega) hlack hne'
          rw [hk0, ptF_s, if_neg he, ec] at wl
          have wl2 : ((c :: ptF s y a a aim tg k0 (m ||| 2 ^ c) c).length : Int) = WT s y a a aim tg m l := wl
          rw [hq2, List.length_drop] at wl2
          obtain ⟨s1, s2, s3, s4, s5⟩ := step_of C.wf ec
          have sp := fsF_some 12 0 c ec
          have c12 : c < 12 := by omega
          have hvm : WT s y a a aim tg m l ≠ 1048576 := by omega
          have e96 : ivA h3 96 (13 * m + l) = kI (mvG s y a a m l) := by
            rw [mvG_same]
            have le : yD y ≤ m := by
              rcases cb.2 with z | z
              · omega
              · have := subB_iff.mp cb.1
                have e : m = m ||| yD y := bit_ext (fun k => by
                  rw [Nat.testBit_or]
                  cases q : (yD y).testBit k
                  · simp
                  · rw [this k q]; rfl)
                rw [e]; exact Nat.right_le_or
            exact M3 m l le hm hl cb
          have leD : yD y ≤ m := by
            have := subB_iff.mp cb.1
            have e : m = m ||| yD y := bit_ext (fun k => by
              rw [Nat.testBit_or]
              cases q : (yD y).testBit k
              · simp
              · rw [this k q]; rfl)
            rw [e]; exact Nat.right_le_or
          have mvl := mvG_lt C.wf y a a m l
          have ix' : ix (kI ((13 * m + l : Nat) : Int)) = 13 * m + l := ix_kI (by omega)
          have ib' : inB (kI ((13 * m + l : Nat) : Int)) 53248 = true := inB_kI (by omega) (by omega)
          have nextS : ∀ d, (mvG s y a a m l).testBit d = true → ivA h3 98 (13 * (m ||| 2 ^ d) + d) = kI (rr aim (WT s y a a aim tg (m ||| 2 ^ d) d)) := fun d hd => by
            have hb := mvG_N C.wf hd
            have := bit_lt hb.2
            exact S3 _ _ (by omega) (or_lt2 hm hb.1) (by omega) (cb_next cb (by omega) hb.2)
          have rrb : ∀ d, d < 12 → -1 ≤ rr aim (WT s y a a aim tg (m ||| 2 ^ d) d) ∧ rr aim (WT s y a a aim tg (m ||| 2 ^ d) d) ≤ 2000000 := fun d hd => by
            have g1 := WT_gd C.wf (y := y) (a := a) (b := a) (aim := aim) (tg := tg) (l := d) (by omega) (or_4096 m12 hd)
            have := g1.b
            rw [rr_012 ha]
            split <;> omega
          have gb : -100 ≤ g ∧ g ≤ 100 := by unfold GoalOk at hg; omega
          suffices H2 : ∀ k, k ≤ c → Safe 7 m_M_laysRow (36, [.ref 88, unV, .int (kI aim), .int (kI g), .int (kI (pa.length : Int)), .int (kI ((13 * m + l : Nat) : Int)), .int (kI i), .int (kI k)], [], h3) (fun v h' => Eqv v (some (.int (kI (pa.length : Int)))) ∧ FRw h h' ∧ ((pa.length : Int) ≠ 1048576 → ∀ i, i < pa.length → ivA h' 99 i = kI (pa.getD i 0 : Nat))) by
            exact H2 0 (by omega)
          refine down_ind c ?_ ?_
          · have lc := (ld_still C.wf hg m12 c12 s3 hvm).mp sp.2.2.1
            have s62 : Safe 7 m_M_laysRow (62, [.ref 88, unV, .int (kI aim), .int (kI g), .int (kI (pa.length : Int)), .int (kI ((13 * m + l : Nat) : Int)), .int (kI i), .int (kI c)], [], h3) (fun v h' => Eqv v (some (.int (kI (pa.length : Int)))) ∧ FRw h h' ∧ ((pa.length : Int) ≠ 1048576 → ∀ i, i < pa.length → ivA h' 99 i = kI (pa.getD i 0 : Nat))) := by
              refine s_M_laysRow_62 ?_
              refine ⟨by rw [kd_88 F3]; rfl, ?_⟩
              rw [M_stillBy_c C3 (by omega) m12 hl c12 ha gb.1 gb.2 (rrb c c12).1 (rrb c c12).2 (fun _ => nextS c s3), lc.2, ← wl2, kI_sub]
              rw [if_pos (by rw [decide_eq_true_eq, Int.natCast_sub (by omega)]), rv_88_24 F3, kd_88 F3, kd_99 F3, ln_99 F3, ix_kI (by omega)]
              refine ⟨rfl, rfl, inB_kI (by omega) (by omega), ?_⟩
              rw [M_behind_c (by omega) m12 hl c12, kI_add]
              have f4 : FRw h (stI h3 99 i (kI c)) := f3.stI (Or.inr (Or.inr (Or.inr rfl))) _
              have getc : pa.getD i 0 = c ∧ pa.drop (i + 1) = ptF s y a a aim tg k0 (m ||| 2 ^ c) c := by
                have e1 : pa.drop i = pa.getD i 0 :: pa.drop (i + 1) := by
                  rw [List.drop_eq_getElem_cons hi]
                  congr 1
                  rw [List.getD_eq_getElem?_getD, List.getElem?_eq_getElem hi]
                  rfl
                rw [← hq2] at e1
                have := List.cons.inj e1
                exact ⟨this.1.symm, this.2.symm⟩
              refine ih (m ||| 2 ^ c) c _ f4 (M3.fr ((Fr_rfl (fun a _ => a = 99) JM h3).stI rfl _) (fun k => by omega)) (S3.fr ((Fr_rfl (fun a _ => a = 99) JM h3).stI rfl _) (fun k => by omega)) (cb_next cb c12 s2) (or_lt2 hm s1) (by omega) (by rw [pop_or c12 s2]; omega) ?_ (fun e2 hl2 => ?_) (fun j hj => ?_)
              · rw [getc.2, show 12 - (i + 1) = k0 by omega]
              · have : ¬ (aim = 2 ∧ c = tg) := fun z => by
                  rw [← z.2, or_self_bit] at hl2
                  cases hl2
                have := s5 this
                have g1 := WT_gd C.wf (y := y) (a := a) (b := a) (aim := aim) (tg := tg) (l := c) (by omega) (or_4096 m12 c12)
                have wc : wcF s y aim c = 1 := by unfold wcF; rw [if_neg (by omega)]
                omega
              · rw [iv_stI]
                by_cases ej : j = i
                · rw [if_pos ⟨rfl, ej⟩, ej, getc.1]
                · rw [if_neg (fun z => ej z.2)]
                  exact R3 j (by omega)
            refine s_M_laysRow_36 ?_
            rw [rv_88_21 F3, kd_88 F3, kd_96 F3, ln_96 F3, ix', e96, kI_long (by omega) (by omega)]
            refine ⟨rfl, rfl, ib', ?_⟩
            rw [M_isIn_c (by omega) (by omega) (by omega), if_neg (by rw [dec_b0]; exact fun z => z s3)]
            by_cases q0 : aim = 0
            · rw [if_neg (by rw [q0]; decide), if_neg (by rw [decide_eq_true_eq, kI_inj (by omega) (by omega) (by omega) (by omega)]; exact fun z => lc.1 ⟨q0, z⟩)]
              exact s62
            · rw [if_pos (by rw [Bool.not_eq_true', decide_eq_false_iff_not, z0, kI_inj (by omega) (by omega) (by omega) (by omega)]; omega)]
              exact s62
          · intro k hk ih2
            have nk := sp.2.2.2 k (by omega) hk
            refine s_M_laysRow_36 ?_
            rw [rv_88_21 F3, kd_88 F3, kd_96 F3, ln_96 F3, ix', e96, kI_long (by omega) (by omega)]
            refine ⟨rfl, rfl, ib', ?_⟩
            rw [M_isIn_c (by omega) (by omega) (by omega), kI_add]
            by_cases qb : (mvG s y a a m l).testBit k = true
            · have lc := ld_still C.wf hg m12 (show k < 12 by omega) qb hvm
              have nlc : ¬ (¬ (aim = 0 ∧ (k : Int) = g) ∧ (if aim = 2 ∧ (k : Int) = g then 1 else if rr aim (WT s y a a aim tg (m ||| 2 ^ k) k) = -1 then -1 else rr aim (WT s y a a aim tg (m ||| 2 ^ k) k) + 1) = WT s y a a aim tg m l) := fun z => by
                rw [lc.mpr z] at nk; cases nk
              rw [if_neg (by rw [dec_b0]; exact fun z => z qb)]
              have s62 : ¬ (aim = 0 ∧ (k : Int) = g) → Safe 7 m_M_laysRow (62, [.ref 88, unV, .int (kI aim), .int (kI g), .int (kI (pa.length : Int)), .int (kI ((13 * m + l : Nat) : Int)), .int (kI i), .int (kI k)], [], h3) (fun v h' => Eqv v (some (.int (kI (pa.length : Int)))) ∧ FRw h h' ∧ ((pa.length : Int) ≠ 1048576 → ∀ i, i < pa.length → ivA h' 99 i = kI (pa.getD i 0 : Nat))) := by
                intro z1
                have z2 : ¬ (if aim = 2 ∧ (k : Int) = g then 1 else if rr aim (WT s y a a aim tg (m ||| 2 ^ k) k) = -1 then -1 else rr aim (WT s y a a aim tg (m ||| 2 ^ k) k) + 1) = WT s y a a aim tg m l := fun z => nlc ⟨z1, z⟩
                have rb := rrb k (by omega)
                refine s_M_laysRow_62 ?_
                refine ⟨by rw [kd_88 F3]; rfl, ?_⟩
                rw [M_stillBy_c C3 (by omega) m12 hl (by omega) ha gb.1 gb.2 rb.1 rb.2 (fun _ => nextS k qb), kI_sub]
                have xb : -1 ≤ (if aim = 2 ∧ (k : Int) = g then 1 else if rr aim (WT s y a a aim tg (m ||| 2 ^ k) k) = -1 then -1 else rr aim (WT s y a a aim tg (m ||| 2 ^ k) k) + 1) ∧ (if aim = 2 ∧ (k : Int) = g then 1 else if rr aim (WT s y a a aim tg (m ||| 2 ^ k) k) = -1 then -1 else rr aim (WT s y a a aim tg (m ||| 2 ^ k) k) + 1) ≤ 2000001 := by
                  split
                  · omega
                  · split <;> omega
                generalize (if aim = 2 ∧ (k : Int) = g then 1 else if rr aim (WT s y a a aim tg (m ||| 2 ^ k) k) = -1 then -1 else rr aim (WT s y a a aim tg (m ||| 2 ^ k) k) + 1) = X at z2 xb ⊢
                rw [if_neg (by rw [decide_eq_true_eq, kI_inj (by omega) (by omega) (by omega) (by omega)]; omega), kI_add]
                exact ih2
              by_cases q0 : aim = 0
              · rw [if_neg (by rw [q0]; decide)]
                by_cases q1 : (k : Int) = g
                · rw [if_pos (by rw [decide_eq_true_eq, q1])]
                  exact ih2
                · rw [if_neg (by rw [decide_eq_true_eq, kI_inj (by omega) (by omega) (by omega) (by omega)]; exact q1)]
                  exact s62 (fun z => q1 z.2)
              · rw [if_pos (by rw [Bool.not_eq_true', decide_eq_false_iff_not, z0, kI_inj (by omega) (by omega) (by omega) (by omega)]; omega)]
                exact s62 (fun z => q0 z.1)
            · rw [if_pos (by rw [dec_b0]; exact qb)]
              exact ih2
/-! the public ones -/
def noG (s : ST) (y : DY) (a c : Int) : Int := if (0 ≤ a ∧ a < sH s) ∧ (0 ≤ c ∧ c < sN s) then (if (yD y).testBit c.toNat = true then -5 else 0) else -2
theorem M_noGoal_c {s : ST} {y : DY} {d : Nat} {h : AH} (C : MC s y h) (hd : 3 ≤ d) {a c : Int} (a1 : -2147483648 ≤ a) (a2 : a ≤ 2147483647) (c1 : -2147483648 ≤ c) (c2 : c ≤ 2147483647) {K : Int32 → AH → Prop} : CallI d m_M_noGoal [.ref 88, .int (kI a), .int (kI c)] h K ↔ K (kI (noG s y a c)) h := by
  have F := C.fix
  have n2 := C.wf.n12
  have hD := C.wy.m12 C.wf
  refine Ret.I (d := 3) (ret_of (s_M_noGoal_0 ?_)) hd
  unfold noG
  refine ⟨by rw [kd_88 F]; rfl, ?_⟩
  rw [kI_long (by omega) (by omega), M_isHand_c C (by omega) (by omega) (by omega)]
  by_cases q1 : 0 ≤ a ∧ a < sH s
  · rw [if_neg (by rw [dec_b0]; exact fun z => z q1)]
    refine ⟨by rw [kd_88 F]; rfl, ?_⟩
    rw [kI_long (by omega) (by omega), M_isCell_c C (by omega) (by omega) (by omega)]
    by_cases q2 : 0 ≤ c ∧ c < sN s
    · obtain ⟨e, rfl⟩ : ∃ e : Nat, c = e := ⟨c.toNat, by omega⟩
      rw [if_pos (by rw [Bool.not_eq_true', decide_eq_false_iff_not, bI_0]; exact fun z => z q2), if_pos ⟨q1, q2⟩, rv_88_1 F, kd_88 F, kd_89 F, ln_89 F]
      refine ⟨rfl, rfl, by decide, ?_⟩
      rw [show ix (kI 22) = 22 from rfl, C.i22, kI_long (by omega) (by omega), M_isIn_c (by omega) (by omega) (by omega)]
      by_cases q3 : (yD y).testBit e = true
      · rw [if_neg (by rw [dec_b0]; exact fun z => z q3), Int.toNat_natCast, if_pos q3]
        exact ⟨rfl, rfl⟩
      · rw [if_pos (by rw [dec_b0]; exact q3), Int.toNat_natCast, if_neg q3]
        exact ⟨rfl, rfl⟩
    · rw [if_neg (by rw [Bool.not_eq_true', decide_eq_false_iff_not, bI_0]; exact fun z => z q2), if_neg (fun z => q2 z.2)]
      exact ⟨rfl, rfl⟩
  · rw [if_pos (by rw [dec_b0]; exact q1), if_neg (fun z => q1 z.1)]
    exact ⟨rfl, rfl⟩
theorem noG_0 {s : ST} {y : DY} {a c : Int} (h : noG s y a c = 0) : (0 ≤ a ∧ a < sH s) ∧ (0 ≤ c ∧ c < sN s) ∧ (yD y).testBit c.toNat = false := by
  unfold noG at h
  by_cases q : (0 ≤ a ∧ a < sH s) ∧ (0 ≤ c ∧ c < sN s)
  · rw [if_pos q] at h
    by_cases q3 : (yD y).testBit c.toNat = true
    · rw [if_pos q3] at h; omega
    · exact ⟨q.1, q.2, by simpa using q3⟩
  · rw [if_neg q] at h; omega
theorem noG_b (s : ST) (y : DY) (a c : Int) : -5 ≤ noG s y a c ∧ noG s y a c ≤ 0 := by
  unfold noG
  split
  · split <;> omega
  · omega
/-- a row's worth, as it is answered -/
def scA (s : ST) (y : DY) (a aim tg : Nat) : Int := rr aim (WT s y a a aim tg (yD y) (yL y))
def atA (s : ST) (y : DY) (a aim tg : Nat) (i : Int) : Int := if i < (paF s y a a aim tg).length ∧ WT s y a a aim tg (yD y) (yL y) ≠ 1048576 then ((paF s y a a aim tg).getD i.toNat 0 : Nat) else -1
def lonA (s : ST) (y : DY) (aim : Nat) (a c : Int) : Int := if noG s y a c = 0 then scA s y a.toNat aim c.toNat else noG s y a c
def lowA (s : ST) (y : DY) (aim : Nat) (a c i : Int) : Int := if noG s y a c = 0 then (if i < 0 then -3 else atA s y a.toNat aim c.toNat i) else noG s y a c
def stkA (s : ST) (y : DY) (a : Int) : Int := if 0 ≤ a ∧ a < sH s then scA s y a.toNat 1 0 else -2
def stwA (s : ST) (y : DY) (a i : Int) : Int := if 0 ≤ a ∧ a < sH s then (if i < 0 then -3 else atA s y a.toNat 1 0 i) else -2
theorem sc_len {s : ST} {y : DY} (w : WFS s) (wy : WFY s y) {a aim tg : Nat} (ha : aim ≤ 2) (hun : aim = 2 → (yD y).testBit tg = false) (hv : WT s y a a aim tg (yD y) (yL y) ≠ 1048576) : scA s y a aim tg = (paF s y a a aim tg).length := by
  unfold scA
  rw [rr_012 ha, if_neg hv]
  exact (pt_len w ha 12 (yD y) (yL y) (wy.m12 w) (by omega) hun (fun _ => hv)).symm
theorem FRw.f0 {h h' : AH} (e : FRw (stI h 88 0 (kI 0)) h') : FRw h h' := ((f88 h).mono (fun _ _ w => Or.inl w) (fun _ _ w => w)).trans e
theorem frw0 (h : AH) : FRw h (stI h 88 0 (kI 0)) := (f88 h).mono (fun _ _ w => Or.inl w) (fun _ _ w => w)
theorem pa_le (s : ST) (y : DY) (a b aim tg : Nat) : (paF s y a b aim tg).length ≤ 12 := pt_le 12 _ _
theorem pa_get {s : ST} (w : WFS s) {y : DY} {a b aim tg i : Nat} (hi : i < (paF s y a b aim tg).length) : (paF s y a b aim tg).getD i 0 < sN s := by
  rw [List.getD_eq_getElem?_getD, List.getElem?_eq_getElem hi]
  exact pt_mem w 12 _ _ _ (List.getElem_mem hi)
theorem M_row_at {s : ST} {y : DY} {h : AH} (C : MC s y h) {a aim tg : Nat} {g i : Int} (hh : a < 4) (hg : GoalOk aim tg g) (hun : aim = 2 → (yD y).testBit tg = false) (i0 : 0 ≤ i) (i2 : i ≤ 2147483647) {d : Nat} (hd : 8 ≤ d) {Q : Int32 → AH → Prop} (H : ∀ h', FRw h h' → Q (kI (atA s y a aim tg i)) h') : CallI d m_M_laysRow [.ref 88, .int (kI a), .int (kI aim), .int (kI g)] h (fun x4 h3 => (if (decide (x4 ≤ kI i)) = true then Q (kI (-1)) h3 else (decide (kdA h3 88 = 12)) = true ∧ (decide (kdA h3 (rvA h3 88 24) = 20) || decide (kdA h3 (rvA h3 88 24) = 40)) = true ∧ (inB (kI i) (lnA h3 (rvA h3 88 24))) = true ∧ Q (ivA h3 (rvA h3 88 24) (ix (kI i))) h3)) := by
  refine GI.use (M_laysRow_g C hh hg hun) (by omega) (fun h3 e3 => ?_)
  have F3 := (C.rw e3.1).fix
  have hD := C.wy.m12 C.wf
  have pl := pa_le s y a a aim tg
  by_cases hv : WT s y a a aim tg (yD y) (yL y) = 1048576
  · rw [hv, rr_012 hg.a, if_pos rfl, if_pos (by rw [decide_eq_true_eq, kI_le (by omega) (by omega) (by omega) (by omega)]; omega)]
    have := H h3 e3.1
    unfold atA at this
    rw [if_neg (fun z => z.2 hv)] at this
    exact this
  · have len := pt_len C.wf (y := y) (a := a) (b := a) (aim := aim) (tg := tg) hg.a 12 (yD y) (yL y) hD (by omega) hun (fun _ => hv)
    have len2 : ((paF s y a a aim tg).length : Int) = WT s y a a aim tg (yD y) (yL y) := len
    rw [rr_012 hg.a, if_neg hv, ← len2]
    have hH := H h3 e3.1
    unfold atA at hH
    by_cases q : i < (paF s y a a aim tg).length
    · obtain ⟨j, rfl⟩ : ∃ j : Nat, i = j := ⟨i.toNat, by omega⟩
      rw [if_pos ⟨q, hv⟩, Int.toNat_natCast, ← e3.2 hv j (by omega)] at hH
      rw [if_neg (by rw [decide_eq_true_eq, kI_le (by omega) (by omega) (by omega) (by omega)]; omega), rv_88_24 F3, kd_88 F3, kd_99 F3, ln_99 F3, ix_kI (by omega)]
      exact ⟨rfl, rfl, inB_kI (by omega) (by omega), hH⟩
    · rw [if_neg (fun z => q z.1)] at hH
      rw [if_pos (by rw [decide_eq_true_eq, kI_le (by omega) (by omega) (by omega) (by omega)]; omega)]
      exact hH
theorem M_lon_g {s : ST} {y : DY} {h : AH} (C0 : MC s y h) {aim : Nat} (ha : aim = 0 ∨ aim = 2) {u : Nat} (hu : (u = m_M_longest ∧ aim = 0) ∨ (u = m_M_soonest ∧ aim = 2)) {a c : Int} (a1 : -2147483648 ≤ a) (a2 : a ≤ 2147483647) (c1 : -2147483648 ≤ c) (c2 : c ≤ 2147483647) : GI 9 u [.ref 88, .int (kI a), .int (kI c)] h (kI (lonA s y aim a c)) (FRw h) := by
  have F := C0.fix
  have C : MC s y (stI h 88 0 (kI 0)) := C0.fr (f88 h)
  have n2 := C.wf.n12
  have n4 := C.wf.2.2.2.2.2.1
  have nb := noG_b s y a c
  have key : ∀ {Q : Option Value → AH → Prop}, (∀ h', FRw h h' → Q (some (.int (kI (lonA s y aim a c)))) h') → CallI 8 m_M_noGoal [.ref 88, .int (kI a), .int (kI c)] (stI h 88 0 (kI 0)) (fun x2 h1 => (if (decide (x2 = 0)) = true then (decide (kdA h1 88 = 12)) = true ∧ CallI 8 m_M_laysRow [.ref 88, .int (kI a), .int (kI aim), .int (kI c)] h1 (fun x4 h3 => Q (some (.int x4)) h3) else Q (some (.int x2)) h1)) := by
    intro Q H
    rw [M_noGoal_c C (by omega) a1 a2 c1 c2]
    by_cases q : noG s y a c = 0
    · obtain ⟨q1, q2, q3⟩ := noG_0 q
      obtain ⟨a', rfl⟩ : ∃ a' : Nat, a = a' := ⟨a.toNat, by omega⟩
      obtain ⟨c', rfl⟩ : ∃ c' : Nat, c = c' := ⟨c.toNat, by omega⟩
      rw [q, if_pos (by decide)]
      refine ⟨by rw [kd_88 C.fix]; rfl, ?_⟩
      refine GI.use (M_laysRow_g C (a := a') (aim := aim) (tg := c') (by omega) (by unfold GoalOk; omega) (fun _ => q3)) (by omega) (fun h3 e3 => ?_)
      have := H h3 e3.1.f0
      unfold lonA scA at this
      rw [if_pos q, Int.toNat_natCast, Int.toNat_natCast] at this
      exact this
    · rw [if_neg (by rw [decide_eq_true_eq, z0, kI_inj (by omega) (by omega) (by omega) (by omega)]; exact q)]
      have := H _ (frw0 h)
      unfold lonA at this
      rw [if_neg q] at this
      exact this
  rcases hu with ⟨e, e2⟩ | ⟨e, e2⟩
  · subst e; subst e2
    exact GIo (s_M_longest_0 ⟨by rw [kd_88 F]; rfl, by rw [kd_stI, kd_88 F]; rfl, key (Q := fun v k => Eqv v (some (.int (kI (lonA s y 0 a c)))) ∧ FRw h k) (fun h' e => ⟨rfl, e⟩)⟩)
  · subst e; subst e2
    exact GIo (s_M_soonest_0 ⟨by rw [kd_88 F]; rfl, by rw [kd_stI, kd_88 F]; rfl, key (Q := fun v k => Eqv v (some (.int (kI (lonA s y 2 a c)))) ∧ FRw h k) (fun h' e => ⟨rfl, e⟩)⟩)
theorem M_rowAt_g {s : ST} {y : DY} {h : AH} (C : MC s y h) {aim : Nat} (ha : aim = 0 ∨ aim = 2) {a c i : Int} (a1 : -2147483648 ≤ a) (a2 : a ≤ 2147483647) (c1 : -2147483648 ≤ c) (c2 : c ≤ 2147483647) (i1 : -2147483648 ≤ i) (i2 : i ≤ 2147483647) : GI 9 m_M_rowAt [.ref 88, .int (kI a), .int (kI c), .int (kI aim), .int (kI i)] h (kI (lowA s y aim a c i)) (FRw h) := by
  have F := C.fix
  have n2 := C.wf.n12
  have n4 := C.wf.2.2.2.2.2.1
  have nb := noG_b s y a c
  refine GIo (s_M_rowAt_0 ?_)
  refine ⟨by rw [kd_88 F]; rfl, ?_⟩
  rw [M_noGoal_c C (by omega) a1 a2 c1 c2]
  unfold lowA
  by_cases q : noG s y a c = 0
  · obtain ⟨q1, q2, q3⟩ := noG_0 q
    obtain ⟨a', rfl⟩ : ∃ a' : Nat, a = a' := ⟨a.toNat, by omega⟩
    obtain ⟨c', rfl⟩ : ∃ c' : Nat, c = c' := ⟨c.toNat, by omega⟩
    rw [q, if_pos (by decide), if_pos rfl]
    by_cases qi : i < 0
    · rw [if_neg (by rw [decide_eq_true_eq, z0, kI_le (by omega) (by omega) (by omega) (by omega)]; omega), if_pos qi]
      exact ⟨rfl, Fr_rfl _ _ _⟩
    · rw [if_pos (by rw [decide_eq_true_eq, z0, kI_le (by omega) (by omega) (by omega) (by omega)]; omega), if_neg qi]
      refine ⟨by rw [kd_88 F]; rfl, ?_⟩
      exact M_row_at C (a := a') (aim := aim) (tg := c') (g := c') (i := i) (Q := fun x k => Eqv (some (.int x)) (some (.int (kI (atA s y (a' : Int).toNat aim (c' : Int).toNat i)))) ∧ FRw h k) (by omega) (by unfold GoalOk; omega) (fun _ => q3) (by omega) i2 (by omega) (fun h' e => ⟨rfl, e⟩)
  · rw [if_neg (by rw [decide_eq_true_eq, z0, kI_inj (by omega) (by omega) (by omega) (by omega)]; exact q), if_neg q]
    exact ⟨rfl, Fr_rfl _ _ _⟩
theorem M_longWay_g {s : ST} {y : DY} {h : AH} (C0 : MC s y h) {a c i : Int} (a1 : -2147483648 ≤ a) (a2 : a ≤ 2147483647) (c1 : -2147483648 ≤ c) (c2 : c ≤ 2147483647) (i1 : -2147483648 ≤ i) (i2 : i ≤ 2147483647) : GI 10 m_M_longWay [.ref 88, .int (kI a), .int (kI c), .int (kI i)] h (kI (lowA s y 0 a c i)) (FRw h) := by
  have F := C0.fix
  refine GIo (s_M_longWay_0 ⟨by rw [kd_88 F]; rfl, by rw [kd_stI, kd_88 F]; rfl, ?_⟩)
  exact GI.use (M_rowAt_g (C0.fr (f88 h)) (aim := 0) (Or.inl rfl) a1 a2 c1 c2 i1 i2) (by omega) (fun h' e => ⟨rfl, e.f0⟩)
theorem M_way_g {s : ST} {y : DY} {h : AH} (C0 : MC s y h) {a c i : Int} (a1 : -2147483648 ≤ a) (a2 : a ≤ 2147483647) (c1 : -2147483648 ≤ c) (c2 : c ≤ 2147483647) (i1 : -2147483648 ≤ i) (i2 : i ≤ 2147483647) : GI 10 m_M_way [.ref 88, .int (kI a), .int (kI c), .int (kI i)] h (kI (lowA s y 2 a c i)) (FRw h) := by
  have F := C0.fix
  refine GIo (s_M_way_0 ⟨by rw [kd_88 F]; rfl, by rw [kd_stI, kd_88 F]; rfl, ?_⟩)
  exact GI.use (M_rowAt_g (C0.fr (f88 h)) (aim := 2) (Or.inr rfl) a1 a2 c1 c2 i1 i2) (by omega) (fun h' e => ⟨rfl, e.f0⟩)
theorem M_stuck_g {s : ST} {y : DY} {h : AH} (C0 : MC s y h) {a : Int} (a1 : -2147483648 ≤ a) (a2 : a ≤ 2147483647) : GI 9 m_M_stuck [.ref 88, .int (kI a)] h (kI (stkA s y a)) (FRw h) := by
  have F := C0.fix
  have C : MC s y (stI h 88 0 (kI 0)) := C0.fr (f88 h)
  have n4 := C.wf.2.2.2.2.2.1
  refine GIo (s_M_stuck_0 ⟨by rw [kd_88 F]; rfl, by rw [kd_stI, kd_88 F]; rfl, ?_⟩)
  unfold stkA
  rw [kI_long (by omega) (by omega), M_isHand_c C (by omega) (by omega) (by omega)]
  by_cases q1 : 0 ≤ a ∧ a < sH s
  · obtain ⟨a', rfl⟩ : ∃ a' : Nat, a = a' := ⟨a.toNat, by omega⟩
    rw [if_neg (by rw [dec_b0]; exact fun z => z q1), if_pos q1]
    refine ⟨by rw [kd_88 C.fix]; rfl, ?_⟩
    exact GI.use (M_laysRow_g C (a := a') (aim := 1) (tg := 0) (g := -1) (by omega) (by unfold GoalOk; omega) (by omega)) (by omega) (fun h3 e3 => ⟨rfl, e3.1.f0⟩)
  · rw [if_pos (by rw [dec_b0]; exact q1), if_neg q1]
    exact ⟨rfl, frw0 h⟩
theorem M_stuckWay_g {s : ST} {y : DY} {h : AH} (C0 : MC s y h) {a i : Int} (a1 : -2147483648 ≤ a) (a2 : a ≤ 2147483647) (i1 : -2147483648 ≤ i) (i2 : i ≤ 2147483647) : GI 9 m_M_stuckWay [.ref 88, .int (kI a), .int (kI i)] h (kI (stwA s y a i)) (FRw h) := by
  have F := C0.fix
  have C : MC s y (stI h 88 0 (kI 0)) := C0.fr (f88 h)
  have n4 := C.wf.2.2.2.2.2.1
  refine GIo (s_M_stuckWay_0 ⟨by rw [kd_88 F]; rfl, by rw [kd_stI, kd_88 F]; rfl, ?_⟩)
  unfold stwA
  rw [kI_long (by omega) (by omega), M_isHand_c C (by omega) (by omega) (by omega)]
  by_cases q1 : 0 ≤ a ∧ a < sH s
  · obtain ⟨a', rfl⟩ : ∃ a' : Nat, a = a' := ⟨a.toNat, by omega⟩
    rw [if_pos (by rw [Bool.not_eq_true', decide_eq_false_iff_not, bI_0]; exact fun z => z q1), if_pos q1]
    by_cases qi : i < 0
    · rw [if_neg (by rw [decide_eq_true_eq, z0, kI_le (by omega) (by omega) (by omega) (by omega)]; omega), if_pos qi]
      exact ⟨rfl, frw0 h⟩
    · rw [if_pos (by rw [decide_eq_true_eq, z0, kI_le (by omega) (by omega) (by omega) (by omega)]; omega), if_neg qi]
      refine ⟨by rw [kd_88 C.fix]; rfl, ?_⟩
      exact M_row_at C (a := a') (aim := 1) (tg := 0) (g := -1) (i := i) (Q := fun x k => Eqv (some (.int x)) (some (.int (kI (atA s y (a' : Int).toNat 1 0 i)))) ∧ FRw h k) (by omega) (by unfold GoalOk; omega) (by omega) (by omega) i2 (by omega) (fun h' e => ⟨rfl, e.f0⟩)
  · rw [if_neg (by rw [Bool.not_eq_true', decide_eq_false_iff_not, bI_0]; exact fun z => z q1), if_neg q1]
    exact ⟨rfl, frw0 h⟩
