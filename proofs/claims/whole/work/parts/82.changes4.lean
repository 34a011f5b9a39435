/-! changes: the reference's search along its table -/
theorem m4_none {f : Nat → Option Nat} : ∀ {k : Nat}, m4 f k = none → ∀ j, j < k → f j = none
  | 0, _, j, hj => by omega
  | k + 1, e, j, hj => by
    have e' : omin (m4 f k) (f k) = none := e
    cases e1 : m4 f k with
    | none =>
      rw [e1] at e'
      by_cases q : j = k
      · rw [q]; exact e'
      · exact m4_none e1 j (by omega)
    | some a =>
      rw [e1] at e'
      cases e2 : f k with
      | none => rw [e2] at e'; cases e'
      | some c => rw [e2] at e'; cases e'
theorem m4_min {f : Nat → Option Nat} : ∀ {k x : Nat}, m4 f k = some x → ∀ j z, j < k → f j = some z → x ≤ z
  | 0, _, e, j, z, hj, _ => by omega
  | k + 1, x, e, j, z, hj, ez => by
    have e' : omin (m4 f k) (f k) = some x := e
    cases e1 : m4 f k with
    | none =>
      rw [e1] at e'
      by_cases q : j = k
      · rw [q] at ez
        have e'' : f k = some x := e'
        rw [ez] at e''
        have := Option.some.inj e''
        omega
      · rw [m4_none e1 j (by omega)] at ez; cases ez
    | some a =>
      rw [e1] at e'
      cases e2 : f k with
      | none =>
        rw [e2] at e'
        have ea : a = x := Option.some.inj e'
        by_cases q : j = k
        · rw [q, e2] at ez; cases ez
        · have := m4_min e1 j z (by omega) ez; omega
      | some c =>
        rw [e2] at e'
        have ea : (if c < a then c else a) = x := Option.some.inj e'
        by_cases q : j = k
        · rw [q, e2] at ez
          have := Option.some.inj ez
          split at ea <;> omega
        · have := m4_min e1 j z (by omega) ez
          split at ea <;> omega
theorem adO_0 (o : Option Nat) : adO o 0 = o := by
  cases o <;> rfl
theorem aft_m1 (f : Nat → Option Nat) : aftO f (-1) = m4 f 4 := by
  unfold aftO
  congr 1
  funext g
  have : cst (-1) g = 0 := by unfold cst; rw [if_pos (Or.inl rfl)]
  rw [this, adO_0]
def BK (f : Nat → Option Nat) (k : Nat) (b : Int) : Prop := (m4 f k = none ∧ b = -1) ∨ ∃ n x : Nat, b = (n : Int) ∧ n < k ∧ f n = some x ∧ m4 f k = some x ∧ ∀ j, j < n → f j ≠ some x
theorem M_changes_g {s : ST} {y : DY} {hs : List DY} {h : AH} (B : BM s y hs h) {w : TW} (X : MTs w h) (W : WTs w) {t wh : Int} (t1 : -2147483648 ≤ t) (t2 : t ≤ 2147483647) (w1 : -2147483648 ≤ wh) (w2 : wh ≤ 2147483647) : GI 9 m_M_changes [.ref 88, .int (kI t), .int (kI wh)] h (kI (chgA s y w t wh)) (FW h) := by
  have F := B.M.fix
  have e0 := f88 h
  have C0 := B.M.fr e0
  have F0 := C0.fix
  have X0 := X.im e0
  have g0 : FW h (stI h 88 0 (kI 0)) := e0.mono (fun a k w => Or.inl w) (fun _ _ w => w)
  refine GIo (s_M_changes_0 ?_)
  generalize hA : chgA s y w t wh = A
  unfold chgA at hA
  have mid : ((0 ≤ wh ∧ wh ≤ 0) ∨ (10 ≤ wh ∧ wh ≤ 21)) → Safe 8 m_M_changes (26, [.ref 88, .int (kI t), .int (kI wh), unV, unV, unV, unV], [], stI h 88 0 (kI 0)) (fun x h' => Eqv x (some (.int (kI A))) ∧ FW h h') := by
    intro q2
    refine s_M_changes_26 ?_
    refine ⟨by rw [kd_88 F0]; rfl, ?_⟩
    rw [M_noSeen_c C0 X0 W t1 t2 (by omega)]
    by_cases q : 0 ≤ t ∧ t < 4
    · rw [if_pos q]
      rw [if_pos ⟨q, q2⟩] at hA
      obtain ⟨t, rfl⟩ := Int.eq_ofNat_of_zero_le q.1
      have ht : t < 4 := by omega
      simp only [Int.toNat_natCast] at hA
      have sb := seR_b s y (w.1 t) (w.2.1 t) (w.2.2 t)
      by_cases z : seR s y (w.1 t) (w.2.1 t) (w.2.2 t) = 0
      · rw [if_pos z] at hA
        have hz0 : kI (seR s y (w.1 ((t : Int)).toNat) (w.2.1 ((t : Int)).toNat) (w.2.2 ((t : Int)).toNat)) = 0 := by
          simp only [Int.toNat_natCast]
          rw [z]
          rfl
        rw [if_pos (decide_eq_true hz0)]
        have z3 := seR_0 z
        refine ⟨by rw [kd_88 F0]; rfl, ?_⟩
        refine GV.use (M_laysFew_g C0 X0 W ht z3.1 z3.2.1.1 z3.2.1.2 z3.2.2) (by omega) (fun h1 e1 => ?_)
        have g1 := g0.trans e1.1
        have F1 := g1.fix F
        have xn := (X.fw g1 t ht).n z3.1
        have L := e1.2
        have n1 := z3.2.1.1
        have n12 := z3.2.1.2
        generalize ablF s y (w.2.2 t) = ab at L hA
        generalize w.2.1 t = n at xn L n1 n12 hA
        have fl : ∀ j, j < 12 → ∀ g, LeO (fo ab n j g) 20 := fun j hj g u eu => Nat.le_trans (fo_le ab n _ g u eu) (by omega)
        have row : ∀ g, g < 4 → ivA h1 102 g = kI (eB 268435456 (fo ab n (n - 1) g)) := fun g hg => by
          have := L 0 (by omega) (by omega) g hg
          rw [Nat.sub_zero, show 4 * 0 + g = g by omega] at this
          exact this
        have fn := fl (n - 1) (by omega)
        suffices H : ∀ k, k ≤ 4 → ∀ b, BK (fo ab n (n - 1)) k b → Safe 8 m_M_changes (49, [.ref 88, .int (kI t), .int (kI wh), unV, .int (kI b), .int (kI k), unV], [], h1) (fun x h' => Eqv x (some (.int (kI A))) ∧ FW h h') by
          exact H 0 (by omega) (-1) (Or.inl ⟨rfl, rfl⟩)
        refine down_ind 4 ?_ ?_
        · intro b hb
          refine s_M_changes_49 ?_
          rcases hb with ⟨e, hb⟩ | ⟨m, x, hb, hm, ex, e, lo⟩
          · subst hb
            have hA' : (-1 : Int) = A := by
              unfold chgR at hA
              rw [aft_m1, e] at hA
              exact hA
            subst hA'
            simp (disch := omega) only [ix_lit, inB_lit, decide_true, Bool.true_or, Bool.or_true, true_and, and_true, kI_add, kI_sub, kI_mul, tn_add, Int.toNat_natCast, Int.reduceToNat, kI_le, kI_lt, kI_inj, decide_eq_true_eq, Bool.not_eq_true', decide_eq_false_iff_not, not_true_eq_false, not_false_eq_true, Classical.not_not, Bool.false_eq_true, if_true, if_false, z0, bI_k0, bI_k1, isB_b, isB_0, isB_1, kI_long, kd_stI, ln_stI, rv_stI, Int.cast_ofNat_Int, Int.le_refl]
            exact ⟨rfl, g1⟩
          · subst hb
            have ea : aftO (fo ab n (n - 1)) (-1) = some x := by rw [aft_m1]; exact e
            have c0 : chF ab n 0 = m := by
              show fstD (tst (fo ab n (n - 1)) (-1)) 0 = m
              have cs : ∀ g, cst (-1) g = 0 := fun g => by unfold cst; rw [if_pos (Or.inl rfl)]
              refine fstD_of 0 hm (tst_iff.mpr (by rw [cs, adO_0, ea]; exact ex)) (fun j hj => ?_)
              cases zz : tst (fo ab n (n - 1)) (-1) j
              · rfl
              · have := tst_iff.mp zz
                rw [cs, adO_0, ea] at this
                exact absurd this (lo j hj)
            have hA' : (if wh = 0 then (x : Int) else if wh - 10 < (n : Int) then (chF ab n (wh - 10).toNat : Int) else -1) = A := by
              unfold chgR at hA
              rw [ea] at hA
              exact hA
            have lx := fn m x ex
            have rm := row m hm
            rw [ex] at rm
            have rm' : ivA h1 102 m = kI x := rm
            have bn : ¬ (m : Int) = -1 := by omega
            have p4 : (4 : Int) ≤ ((4 : Nat) : Int) := by omega
            by_cases zn : wh - 10 < (n : Int)
            · by_cases zw : wh = 0
              · rw [if_pos zw] at hA'
                subst hA'
                subst zw
                simp (disch := omega) only [kd_88 F1, rv_88_29 F1, kd_104 F1, ln_104 F1, rv_88_27 F1, kd_102 F1, ln_102 F1, xn, rm', ix_lit, inB_lit, decide_true, Bool.true_or, Bool.or_true, true_and, and_true, kI_add, kI_sub, kI_mul, tn_add, Int.toNat_natCast, Int.reduceToNat, kI_le, kI_lt, kI_inj, decide_eq_true_eq, Bool.not_eq_true', decide_eq_false_iff_not, not_true_eq_false, not_false_eq_true, Classical.not_not, Bool.false_eq_true, if_true, if_false, z0, bI_k0, bI_k1, isB_b, isB_0, isB_1, kI_long, kd_stI, ln_stI, rv_stI, p4, bn, Int.cast_ofNat_Int, Int.le_refl]
                rw [if_pos (by omega)]
                exact ⟨rfl, g1⟩
              · rw [if_neg zw, if_pos zn] at hA'
                subst hA'
                simp (disch := omega) only [kd_88 F1, rv_88_29 F1, kd_104 F1, ln_104 F1, xn, ix_lit, inB_lit, decide_true, Bool.true_or, Bool.or_true, true_and, and_true, kI_add, kI_sub, kI_mul, tn_add, Int.toNat_natCast, Int.reduceToNat, kI_le, kI_lt, kI_inj, decide_eq_true_eq, Bool.not_eq_true', decide_eq_false_iff_not, not_true_eq_false, not_false_eq_true, Classical.not_not, Bool.false_eq_true, if_true, if_false, z0, bI_k0, bI_k1, isB_b, isB_0, isB_1, kI_long, kd_stI, ln_stI, rv_stI, p4, bn, zn, zw, Int.cast_ofNat_Int, Int.le_refl]
                suffices H2 : ∀ i, i ≤ (wh - 10).toNat → Safe 8 m_M_changes (137, [.ref 88, unV, .int (kI wh), unV, .int (kI (chF ab n i)), .int (kI i), unV], [], h1) (fun x h' => Eqv x (some (.int (kI (chF ab n (wh - 10).toNat)))) ∧ FW h h') by
                  have := H2 0 (by omega)
                  rw [c0] at this
                  exact this
                refine down_ind (wh - 10).toNat ?_ ?_
                · refine s_M_changes_137 ?_
                  have pw : wh - 10 ≤ ((wh - 10).toNat : Int) := by omega
                  simp (disch := omega) only [ix_lit, inB_lit, decide_true, Bool.true_or, Bool.or_true, true_and, and_true, kI_add, kI_sub, kI_mul, tn_add, Int.toNat_natCast, Int.reduceToNat, kI_le, kI_lt, kI_inj, decide_eq_true_eq, Bool.not_eq_true', decide_eq_false_iff_not, not_true_eq_false, not_false_eq_true, Classical.not_not, Bool.false_eq_true, if_true, if_false, z0, bI_k0, bI_k1, isB_b, isB_0, isB_1, kI_long, kd_stI, ln_stI, rv_stI, pw]
                  exact ⟨rfl, g1⟩
                · intro i hi ih
                  have pw : ¬ wh - 10 ≤ (i : Int) := by omega
                  have oki := chF_ok n1 ea i (by omega)
                  have okj := chF_ok n1 ea (i + 1) (by omega)
                  have nxi := chF_nx (i := i) n1 ea (by omega)
                  obtain ⟨zi, hzi⟩ := oki.2
                  have fj := fl (n - 1 - (i + 1)) (by omega)
                  have rowj : ∀ g, g < 4 → ivA h1 102 (4 * (i + 1) + g) = kI (eB 268435456 (fo ab n (n - 1 - (i + 1)) g)) := fun g hg => L (i + 1) (by omega) (by omega) g hg
                  have rowi := L i (by omega) (by omega) (chF ab n i) oki.1
                  have lzi := fl (n - 1 - i) (by omega) (chF ab n i) zi hzi
                  have fs := fstD_is (p := tst (fo ab n (n - 1 - (i + 1))) (chF ab n i)) (g := chF ab n (i + 1)) 0 okj.1 (by
                    obtain ⟨g, h1', h2'⟩ := tst_ex (nxi.trans hzi)
                    exact (fstD_is 0 h1' h2').2.1)
                  have cd : chF ab n (i + 1) = fstD (tst (fo ab n (n - 1 - (i + 1))) (chF ab n i)) 0 := rfl
                  rw [← cd] at fs
                  refine s_M_changes_137 ?_
                  simp (disch := omega) only [ix_lit, inB_lit, decide_true, Bool.true_or, Bool.or_true, true_and, and_true, kI_add, kI_sub, kI_mul, tn_add, Int.toNat_natCast, Int.reduceToNat, kI_le, kI_lt, kI_inj, decide_eq_true_eq, Bool.not_eq_true', decide_eq_false_iff_not, not_true_eq_false, not_false_eq_true, Classical.not_not, Bool.false_eq_true, if_true, if_false, z0, bI_k0, bI_k1, isB_b, isB_0, isB_1, kI_long, kd_stI, ln_stI, rv_stI, pw]
                  have ei : ix (kI (4 * (i : Int) + chF ab n i)) = 4 * i + chF ab n i := by rw [ix_lit (by omega) (by omega)]; omega
                  have eb : inB (kI (4 * (i : Int) + chF ab n i)) 48 = true := inB_lit (by omega) (by omega) (by omega)
                  suffices H3 : ∀ g, g ≤ chF ab n (i + 1) → Safe 8 m_M_changes (149, [.ref 88, unV, .int (kI wh), unV, .int (kI (chF ab n i)), .int (kI i), .int (kI g)], [], h1) (fun x h' => Eqv x (some (.int (kI (chF ab n (wh - 10).toNat)))) ∧ FW h h') by
                    exact H3 0 (by omega)
                  have step : ∀ g, g < 4 → (tst (fo ab n (n - 1 - (i + 1))) (chF ab n i) g = true → Safe 8 m_M_changes (137, [.ref 88, unV, .int (kI wh), unV, .int (kI g), .int (kI ((i + 1 : Nat) : Int)), unV], [], h1) (fun x h' => Eqv x (some (.int (kI (chF ab n (wh - 10).toNat)))) ∧ FW h h')) → (tst (fo ab n (n - 1 - (i + 1))) (chF ab n i) g = false → Safe 8 m_M_changes (149, [.ref 88, unV, .int (kI wh), unV, .int (kI (chF ab n i)), .int (kI i), .int (kI ((g + 1 : Nat) : Int))], [], h1) (fun x h' => Eqv x (some (.int (kI (chF ab n (wh - 10).toNat)))) ∧ FW h h')) → Safe 8 m_M_changes (149, [.ref 88, unV, .int (kI wh), unV, .int (kI (chF ab n i)), .int (kI i), .int (kI g)], [], h1) (fun x h' => Eqv x (some (.int (kI (chF ab n (wh - 10).toNat)))) ∧ FW h h') := by
                    intro g hg yes no
                    have eig : ix (kI (4 * ((i : Int) + 1) + g)) = 4 * (i + 1) + g := by rw [ix_lit (by omega) (by omega)]; omega
                    have ebg : inB (kI (4 * ((i : Int) + 1) + g)) 48 = true := inB_lit (by omega) (by omega) (by omega)
                    have rg := rowj g hg
                    have lg := eB_le (fj g) (show 20 ≤ 268435456 by omega)
                    have cg := cst_le (chF ab n i) g
                    have inj := eB_inj (B := 268435456) (a := fo ab n (n - 1 - (i + 1)) g) (b := aftO (fo ab n (n - 1 - (i + 1))) (chF ab n i)) (c := cst (chF ab n i) g) (l := 20) (fj g) (nxi.trans hzi) lzi (by omega) cg
                    rw [nxi] at inj
                    refine s_M_changes_149 ?_
                    cases eo : fo ab n (n - 1 - (i + 1)) g with
                    | none =>
                      have tf : tst (fo ab n (n - 1 - (i + 1))) (chF ab n i) g = false := by
                        cases zz : tst (fo ab n (n - 1 - (i + 1))) (chF ab n i) g
                        · rfl
                        · have := tst_iff.mp zz
                          rw [eo, nxi, hzi] at this
                          cases this
                      rw [eo] at rg
                      have rg' : ivA h1 102 (4 * (i + 1) + g) = kI 268435456 := rg
                      simp (disch := omega) only [kd_88 F1, rv_88_27 F1, kd_102 F1, ln_102 F1, ix_lit, inB_lit, decide_true, Bool.true_or, Bool.or_true, true_and, and_true, kI_add, kI_sub, kI_mul, tn_add, Int.toNat_natCast, Int.reduceToNat, kI_le, kI_lt, kI_inj, decide_eq_true_eq, Bool.not_eq_true', decide_eq_false_iff_not, not_true_eq_false, not_false_eq_true, Classical.not_not, Bool.false_eq_true, if_true, if_false, z0, bI_k0, bI_k1, isB_b, isB_0, isB_1, kI_long, kd_stI, ln_stI, rv_stI, eig, ebg, rg', Int.le_refl]
                      exact no tf
                    | some u =>
                      have lu := fj g u eo
                      rw [eo] at rg inj
                      have rg' : ivA h1 102 (4 * (i + 1) + g) = kI u := rg
                      have inj' : (u + cst (chF ab n i) g = eB 268435456 (fo ab n (n - 1 - i) (chF ab n i))) ↔ adO (some u) (cst (chF ab n i) g) = fo ab n (n - 1 - i) (chF ab n i) := inj
                      have ezi : eB 268435456 (fo ab n (n - 1 - i) (chF ab n i)) = zi := by rw [hzi]; rfl
                      rw [ezi] at inj'
                      rw [ezi] at rowi
                      have pu : ¬ (268435456 : Int) ≤ (u : Int) := by omega
                      have tt : tst (fo ab n (n - 1 - (i + 1))) (chF ab n i) g = true ↔ u + cst (chF ab n i) g = zi := by
                        rw [tst_iff, eo, nxi]
                        exact inj'.symm
                      simp (disch := omega) only [kd_88 F1, rv_88_27 F1, kd_102 F1, ln_102 F1, ix_lit, inB_lit, decide_true, Bool.true_or, Bool.or_true, true_and, and_true, kI_add, kI_sub, kI_mul, tn_add, Int.toNat_natCast, Int.reduceToNat, kI_le, kI_lt, kI_inj, decide_eq_true_eq, Bool.not_eq_true', decide_eq_false_iff_not, not_true_eq_false, not_false_eq_true, Classical.not_not, Bool.false_eq_true, if_true, if_false, z0, bI_k0, bI_k1, isB_b, isB_0, isB_1, kI_long, kd_stI, ln_stI, rv_stI, eig, ebg, rg', pu, M_fewBy_c (show 1 ≤ 8 by omega) F1 (show i < 11 by omega) hg oki.1 (show u ≤ 268435456 by omega) rg', ei, eb, rowi]
                      by_cases qq : u + cst (chF ab n i) g = zi
                      · rw [if_pos (by omega)]
                        exact yes (tt.mpr qq)
                      · rw [if_neg (by omega)]
                        refine no ?_
                        cases zz : tst (fo ab n (n - 1 - (i + 1))) (chF ab n i) g
                        · rfl
                        · exact absurd (tt.mp zz) qq
                  refine down_ind (chF ab n (i + 1)) ?_ ?_
                  · exact step _ okj.1 (fun _ => ih) (fun no => by rw [fs.2.1] at no; cases no)
                  · intro g hg ih3
                    exact step g (by omega) (fun yes => by rw [fs.2.2 g hg] at yes; cases yes) (fun _ => ih3)
            · have zw : ¬ wh = 0 := by omega
              rw [if_neg zw, if_neg zn] at hA'
              subst hA'
              simp (disch := omega) only [kd_88 F1, rv_88_29 F1, kd_104 F1, ln_104 F1, xn, ix_lit, inB_lit, decide_true, Bool.true_or, Bool.or_true, true_and, and_true, kI_add, kI_sub, kI_mul, tn_add, Int.toNat_natCast, Int.reduceToNat, kI_le, kI_lt, kI_inj, decide_eq_true_eq, Bool.not_eq_true', decide_eq_false_iff_not, not_true_eq_false, not_false_eq_true, Classical.not_not, Bool.false_eq_true, if_true, if_false, z0, bI_k0, bI_k1, isB_b, isB_0, isB_1, kI_long, kd_stI, ln_stI, rv_stI, p4, bn, zn, Int.cast_ofNat_Int, Int.le_refl]
              exact ⟨rfl, g1⟩
        · intro k hk ih b hb
          have z4 : ¬ (4 : Int) ≤ (k : Int) := by omega
          have rk := row k hk
          have em : m4 (fo ab n (n - 1)) (k + 1) = omin (m4 (fo ab n (n - 1)) k) (fo ab n (n - 1) k) := rfl
          refine s_M_changes_49 ?_
          cases eo : fo ab n (n - 1) k with
          | none =>
            rw [eo] at rk em
            have rk' : ivA h1 102 k = kI 268435456 := rk
            have em' : m4 (fo ab n (n - 1)) (k + 1) = m4 (fo ab n (n - 1)) k := by
              rw [em]
              cases m4 (fo ab n (n - 1)) k <;> rfl
            simp (disch := omega) only [kd_88 F1, rv_88_27 F1, kd_102 F1, ln_102 F1, rk', ix_lit, inB_lit, decide_true, Bool.true_or, Bool.or_true, true_and, and_true, kI_add, kI_sub, kI_mul, tn_add, Int.toNat_natCast, Int.reduceToNat, kI_le, kI_lt, kI_inj, decide_eq_true_eq, Bool.not_eq_true', decide_eq_false_iff_not, not_true_eq_false, not_false_eq_true, Classical.not_not, Bool.false_eq_true, if_true, if_false, z0, bI_k0, bI_k1, isB_b, isB_0, isB_1, kI_long, kd_stI, ln_stI, rv_stI, z4, Int.le_refl]
            refine ih b ?_
            rcases hb with ⟨e, hb⟩ | ⟨m, x, hb, hm, ex, e, lo⟩
            · exact Or.inl ⟨by rw [em']; exact e, hb⟩
            · exact Or.inr ⟨m, x, hb, by omega, ex, by rw [em']; exact e, lo⟩
          | some u =>
            have lu := fn k u eo
            rw [eo] at rk em
            have rk' : ivA h1 102 k = kI u := rk
            have pu : ¬ (268435456 : Int) ≤ (u : Int) := by omega
            rcases hb with ⟨e, hb⟩ | ⟨m, x, hb, hm, ex, e, lo⟩
            · subst hb
              rw [e] at em
              simp (disch := omega) only [kd_88 F1, rv_88_27 F1, kd_102 F1, ln_102 F1, rk', ix_lit, inB_lit, decide_true, Bool.true_or, Bool.or_true, true_and, and_true, kI_add, kI_sub, kI_mul, tn_add, Int.toNat_natCast, Int.reduceToNat, kI_le, kI_lt, kI_inj, decide_eq_true_eq, Bool.not_eq_true', decide_eq_false_iff_not, not_true_eq_false, not_false_eq_true, Classical.not_not, Bool.false_eq_true, if_true, if_false, z0, bI_k0, bI_k1, isB_b, isB_0, isB_1, kI_long, kd_stI, ln_stI, rv_stI, z4, pu]
              refine s_M_changes_91 ?_
              rw [kI_add]
              refine ih (k : Int) (Or.inr ⟨k, u, rfl, by omega, eo, em, fun j hj => ?_⟩)
              rw [m4_none e j hj]
              simp
            · subst hb
              rw [e] at em
              have em' : m4 (fo ab n (n - 1)) (k + 1) = some (if u < x then u else x) := em
              have lx := fn m x ex
              have rm := row m (by omega)
              rw [ex] at rm
              have rm' : ivA h1 102 m = kI x := rm
              have bn : ¬ (m : Int) = -1 := by omega
              simp (disch := omega) only [kd_88 F1, rv_88_27 F1, kd_102 F1, ln_102 F1, rk', rm', ix_lit, inB_lit, decide_true, Bool.true_or, Bool.or_true, true_and, and_true, kI_add, kI_sub, kI_mul, tn_add, Int.toNat_natCast, Int.reduceToNat, kI_le, kI_lt, kI_inj, decide_eq_true_eq, Bool.not_eq_true', decide_eq_false_iff_not, not_true_eq_false, not_false_eq_true, Classical.not_not, Bool.false_eq_true, if_true, if_false, z0, bI_k0, bI_k1, isB_b, isB_0, isB_1, kI_long, kd_stI, ln_stI, rv_stI, z4, pu, bn]
              by_cases qx : u < x
              · rw [if_pos qx] at em'
                rw [if_neg (by omega)]
                refine s_M_changes_91 ?_
                rw [kI_add]
                refine ih (k : Int) (Or.inr ⟨k, u, rfl, by omega, eo, em', fun j hj ej => ?_⟩)
                have := m4_min e j u hj ej
                omega
              · rw [if_neg qx] at em'
                rw [if_pos (by omega)]
                exact ih (m : Int) (Or.inr ⟨m, x, rfl, by omega, ex, em', lo⟩)
      · rw [if_neg z] at hA
        subst hA
        have hz0 : ¬ kI (seR s y (w.1 ((t : Int)).toNat) (w.2.1 ((t : Int)).toNat) (w.2.2 ((t : Int)).toNat)) = 0 := by
          simp only [Int.toNat_natCast]
          rw [z0, kI_inj (by omega) (by omega) (by omega) (by omega)]
          exact z
        rw [if_neg (by rw [decide_eq_true_eq]; exact hz0)]
        exact ⟨rfl, g0⟩
    · rw [if_neg q]
      rw [if_neg (fun w => q w.1)] at hA
      subst hA
      rw [if_neg (by decide)]
      exact ⟨rfl, g0⟩
  by_cases zw : wh = 0
  · rw [zw] at mid ⊢
    refine ⟨by rw [kd_88 F]; rfl, ?_⟩
    rw [if_pos (by decide)]
    exact mid (Or.inl (by omega))
  · by_cases q2 : 10 ≤ wh ∧ wh ≤ 21
    · simp (disch := omega) only [kd_88 F, ix_lit, inB_lit, decide_true, Bool.true_or, Bool.or_true, true_and, and_true, kI_add, kI_sub, kI_mul, tn_add, Int.toNat_natCast, Int.reduceToNat, kI_le, kI_lt, kI_inj, decide_eq_true_eq, Bool.not_eq_true', decide_eq_false_iff_not, not_true_eq_false, not_false_eq_true, Classical.not_not, Bool.false_eq_true, if_true, if_false, z0, bI_k0, bI_k1, isB_b, isB_0, isB_1, kI_long, kd_stI, ln_stI, rv_stI, zw, M_within_c, eq_true q2]
      exact mid (Or.inr q2)
    · simp (disch := omega) only [kd_88 F, ix_lit, inB_lit, decide_true, Bool.true_or, Bool.or_true, true_and, and_true, kI_add, kI_sub, kI_mul, tn_add, Int.toNat_natCast, Int.reduceToNat, kI_le, kI_lt, kI_inj, decide_eq_true_eq, Bool.not_eq_true', decide_eq_false_iff_not, not_true_eq_false, not_false_eq_true, Classical.not_not, Bool.false_eq_true, if_true, if_false, z0, bI_k0, bI_k1, isB_b, isB_0, isB_1, kI_long, kd_stI, ln_stI, rv_stI, zw, M_within_c, eq_false q2]
      rw [if_neg (fun w => by omega)] at hA
      subst hA
      exact ⟨rfl, g0⟩
