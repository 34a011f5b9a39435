/-! the reference's game -/
theorem M_gameBy_c {s : ST} {y : DY} {d : Nat} {h : AH} (C : MC s y h) (hd : 3 ≤ d) {m l c : Nat} (hm : m < 4096) (hl : l ≤ 12) (hc : c < 12) {K : Int32 → AH → Prop} : CallI d m_M_gameBy [.ref 88, .int (kI ((13 * m + l : Nat) : Int)), .int (kI c)] h K ↔ K (ivA h 98 (13 * (m ||| 2 ^ c) + c)) h := by
  have F := C.fix
  have hz := or_4096 hm hc
  refine Ret.I (d := 3) (ret_of (s_M_gameBy_0 ?_)) hd
  refine ⟨by rw [kd_88 F]; rfl, ?_⟩
  rw [M_behind_c (by omega) hm hl hc, rv_88_23 F, kd_98 F, ln_98 F, ix_kI (by omega)]
  exact ⟨rfl, inB_kI (by omega) (by omega), rfl, rfl⟩
theorem rr_4 (v : Int) : rr 4 v = if v < 0 then v else v - 1 := rfl
theorem M_gameAt_c {s : ST} {y : DY} {d : Nat} {h : AH} (C : MC s y h) (hd : 4 ≤ d) {a b tg m l : Nat} (hm : m < 4096) (hl : l ≤ 12) (ht : tg ≤ 1) (hT : ∀ c, (mvG s y a b m l).testBit c = true → ivA h 98 (13 * (m ||| 2 ^ c) + c) = kI (rr 4 (WT s y a b 4 tg (m ||| 2 ^ c) c))) {K : Int32 → AH → Prop} : CallI d m_M_gameAt [.ref 88, .int (kI ((13 * m + l : Nat) : Int)), .int (kI (mvG s y a b m l)), .int (kI tg)] h K ↔ K (kI (rr 4 (WT s y a b 4 tg m l))) h := by
  have F := C.fix
  have n2 := C.wf.n12
  have mvl := mvG_lt C.wf y a b m l
  have hN : ∀ c, (mvG s y a b m l).testBit c = true → c < sN s ∧ m.testBit c = false := fun c hc => mvG_N C.wf hc
  have hhi : ∀ k, sN s ≤ k → (mvG s y a b m l).testBit k = false := fun k hk => mvG_hi C.wf hk
  have eq := WT_eq (w := C.wf) (y := y) (a := a) (b := b) (aim := 4) (tg := tg) (l := l) hm
  have eq4 : WT s y a b 4 tg m l = if mvG s y a b m l = 0 then 2 * (tg : Int) - 1 else plF (mvG s y a b m l).testBit (fun c => WT s y a b 4 tg (m ||| 2 ^ c) c) := eq
  refine Ret.I (d := 4) (ret_of (s_M_gameAt_0 ?_)) hd
  rw [eq4]
  generalize hmv : mvG s y a b m l = mv at *
  by_cases q0 : mv = 0
  · rw [if_neg (by rw [q0]; decide), if_pos q0]
    by_cases q1 : tg = 1
    · rw [if_neg (by rw [q1]; decide), q1]
      exact ⟨rfl, rfl⟩
    · have : tg = 0 := by omega
      rw [if_pos (by rw [this]; decide), this]
      exact ⟨rfl, rfl⟩
  · rw [if_pos (by rw [Bool.not_eq_true', decide_eq_false_iff_not, z0, kI_inj (by omega) (by omega) (by omega) (by omega)]; omega), if_neg q0]
    obtain ⟨f, hf⟩ : ∃ f : Nat → Int, f = fun c => WT s y a b 4 tg (m ||| 2 ^ c) c := ⟨_, rfl⟩
    rw [← hf]
    have fb : ∀ c, c < 12 → f c ≠ 0 ∧ f c ≤ 13 ∧ -13 ≤ f c := fun c hc => by
      have := WT_4 C.wf (y := y) (a := a) (b := b) (l := c) ht (or_4096 hm hc)
      have e : f c = WT s y a b 4 tg (m ||| 2 ^ c) c := by rw [hf]
      omega
    have hT' : ∀ c, mv.testBit c = true → ivA h 98 (13 * (m ||| 2 ^ c) + c) = kI (rr 4 (f c)) := fun c hc => by
      have e : f c = WT s y a b 4 tg (m ||| 2 ^ c) c := by rw [hf]
      rw [e]; exact hT c hc
    have lsb : ∀ k, k ≤ 12 → lsF mv.testBit f k = -1048576 ∨ (-13 ≤ lsF mv.testBit f k ∧ lsF mv.testBit f k < 0) := by
      intro k hk
      rcases lsF_at (ok := mv.testBit) (f := f) k with q | ⟨c, q1, q2, q3, q4, q5⟩
      · exact Or.inl q
      · have := fb c (by omega)
        right; omega
    have wnb : ∀ k, 0 ≤ wnF mv.testBit f k ∧ wnF mv.testBit f k ≤ 13 := wnF_b (by omega) (fun k hk _ => (fb k (by have := (hN k hk).1; omega)).2.1)
    have l12 := lsb 12 (by omega)
    have w12 := wnb 12
    suffices H : ∀ k, k ≤ sN s → Safe 3 m_M_gameAt (26, [.ref 88, .int (kI ((13 * m + l : Nat) : Int)), .int (kI mv), unV, .int (kI (if lsF mv.testBit f k = -1048576 then 268435456 else -(lsF mv.testBit f k))), .int (kI (wnF mv.testBit f k)), .int (kI k), unV], [], h) (fun v k => v = some (.int (kI (rr 4 (plF mv.testBit f)))) ∧ k = h) by
      exact H 0 (by omega)
    refine down_ind (sN s) ?_ ?_
    · refine s_M_gameAt_26 ?_
      refine ⟨by rw [kd_88 F]; rfl, ?_⟩
      rw [M_cells_c C (by omega), if_pos (by rw [decide_eq_true_eq, kI_le (by omega) (by omega) (by omega) (by omega)]; omega), lsF_n n2 hhi, wnF_n n2 hhi]
      unfold plF
      rw [rr_4]
      rcases l12 with q | q
      · rw [q, if_pos rfl, if_pos (by decide), if_pos (by omega), if_pos (by omega), kI_neg, kI_sub]
        exact ⟨rfl, rfl⟩
      · rw [if_neg (show ¬ lsF mv.testBit f 12 = -1048576 by omega), if_neg (by rw [decide_eq_true_eq, kI_le (by omega) (by omega) (by omega) (by omega)]; omega), if_neg (show ¬ lsF mv.testBit f 12 ≤ -1048576 by omega), if_neg (by omega)]
        rw [show 1 - lsF mv.testBit f 12 - 1 = -(lsF mv.testBit f 12) by omega]
        exact ⟨rfl, rfl⟩
    · intro k hk ih
      have lk := lsb k (by omega)
      have wk := wnb k
      refine s_M_gameAt_26 ?_
      refine ⟨by rw [kd_88 F]; rfl, ?_⟩
      rw [M_cells_c C (by omega), if_neg (by rw [decide_eq_true_eq, kI_le (by omega) (by omega) (by omega) (by omega)]; omega), kI_long (by omega) (by omega), M_isIn_c (by omega) (by omega) (by omega)]
      rw [lsF_s, wnF_s] at ih
      by_cases qb : mv.testBit k = true
      · rw [if_pos (by rw [Bool.not_eq_true', decide_eq_false_iff_not, bI_0]; exact fun z => z qb)]
        have fk := fb k (by omega)
        refine ⟨by rw [kd_88 F]; rfl, ?_⟩
        rw [M_gameBy_c C (by omega) hm hl (by omega), hT' k qb, rr_4]
        by_cases qs : f k < 0
        · rw [if_pos qs, if_neg (by rw [decide_eq_true_eq, z0, kI_le (by omega) (by omega) (by omega) (by omega)]; omega), kI_neg]
          rw [if_pos (show mv.testBit k = true ∧ f k < 0 from ⟨qb, qs⟩), if_neg (show ¬ (mv.testBit k = true ∧ 0 ≤ f k) by omega)] at ih
          by_cases q4 : lsF mv.testBit f k < f k
          · rw [if_pos q4, if_neg (show ¬ f k = -1048576 by omega)] at ih
            rw [if_neg (by
              rw [decide_eq_true_eq]
              rcases lk with z | z
              · rw [if_pos z, kI_le (by omega) (by omega) (by omega) (by omega)]; omega
              · rw [if_neg (show ¬ lsF mv.testBit f k = -1048576 by omega), kI_le (by omega) (by omega) (by omega) (by omega)]; omega)]
            refine s_M_gameAt_78 ?_
            rw [kI_add]
            exact ih
          · rw [if_neg q4] at ih
            have z : ¬ lsF mv.testBit f k = -1048576 := by omega
            rw [if_neg z] at ih ⊢
            rw [if_pos (by rw [decide_eq_true_eq, kI_le (by omega) (by omega) (by omega) (by omega)]; omega)]
            refine s_M_gameAt_78 ?_
            rw [kI_add]
            exact ih
        · rw [if_neg qs, if_pos (by rw [decide_eq_true_eq, z0, kI_le (by omega) (by omega) (by omega) (by omega)]; omega), kI_add]
          rw [if_neg (show ¬ (mv.testBit k = true ∧ f k < 0) by omega), if_pos (show mv.testBit k = true ∧ 0 ≤ f k from ⟨qb, by omega⟩)] at ih
          rw [show f k - 1 + 1 = f k by omega]
          by_cases q4 : wnF mv.testBit f k < f k
          · rw [if_pos q4] at ih
            rw [if_neg (by rw [decide_eq_true_eq, kI_le (by omega) (by omega) (by omega) (by omega)]; omega), kI_add]
            exact ih
          · rw [if_neg q4] at ih
            rw [if_pos (by rw [decide_eq_true_eq, kI_le (by omega) (by omega) (by omega) (by omega)]; omega), kI_add]
            exact ih
      · rw [if_neg (by rw [Bool.not_eq_true', decide_eq_false_iff_not, bI_0]; exact fun z => z qb), kI_add]
        rw [if_neg (show ¬ (mv.testBit k = true ∧ f k < 0) from fun z => qb z.1), if_neg (show ¬ (mv.testBit k = true ∧ 0 ≤ f k) from fun z => qb z.1)] at ih
        exact ih
theorem M_mayAt_c {s : ST} {y : DY} {d : Nat} {h : AH} (C : MC s y h) (hd : 2 ≤ d) {a b m l : Nat} (hm : m < 4096) (hl : l ≤ 12) (sb : subB (yD y) m) (h96 : ivA h 96 (13 * m + l) = kI (mvF s a (yB y a) m l)) (h97 : ivA h 97 (13 * m + l) = kI (mvF s b (yB y b) m l)) {K : Int32 → AH → Prop} : CallI d m_M_mayAt [.ref 88, .int (kI ((13 * m + l : Nat) : Int))] h K ↔ K (kI (mvG s y a b m l)) h := by
  have F := C.fix
  have dl : dif m (yD y) < 4096 := dif_lt (n := 12) hm
  have e3 : kI ((13 * m + l : Nat) : Int) / kI 13 = kI (m : Int) := by
    have := kI_ndiv (a := 13 * m + l) (b := 13) (by omega) (by omega) (by omega)
    rw [show (13 * m + l) / 13 = m by omega] at this
    exact this
  have pl := pop_le (dif m (yD y))
  have er : kI (pop (dif m (yD y))) - kI (pop (dif m (yD y))) / kI 2 * kI 2 = kI ((pop (dif m (yD y)) % 2 : Nat) : Int) := kI_rem (b := 2) (by omega) (by omega) (by omega)
  have ix' : ix (kI ((13 * m + l : Nat) : Int)) = 13 * m + l := ix_kI (by omega)
  have ib' : inB (kI ((13 * m + l : Nat) : Int)) 53248 = true := inB_kI (by omega) (by omega)
  refine Ret.I (d := 2) (ret_of (s_M_mayAt_0 ?_)) hd
  refine ⟨by decide, by rw [kd_88 F]; rfl, by rw [rv_88_1 F, kd_89 F]; rfl, by rw [rv_88_1 F, ln_89 F]; rfl, ?_⟩
  rw [e3, rv_88_1 F, show ix (kI 22) = 22 from rfl, C.i22, kI_dif, M_bits_c (by omega) (by omega), er]
  refine ⟨by decide, ?_⟩
  unfold mvG
  rw [pop_dif sb]
  by_cases q : (pop m - pop (yD y)) % 2 = 0
  · rw [if_neg (by rw [q]; decide), if_pos q, rv_88_21 F, kd_88 F, kd_96 F, ln_96 F, ix', h96]
    exact ⟨rfl, rfl, ib', rfl, rfl⟩
  · rw [if_pos (by rw [Bool.not_eq_true', decide_eq_false_iff_not, z0, kI_inj (by omega) (by omega) (by omega) (by omega)]; omega), if_neg q, rv_88_22 F, kd_88 F, kd_97 F, ln_97 F, ix', h97]
    exact ⟨rfl, rfl, ib', rfl, rfl⟩
abbrev FGm (h h' : AH) : Prop := Fr (fun a k => IM a k ∨ a = 96 ∨ a = 97 ∨ a = 98) JM h h'
theorem MC.gm {s : ST} {y : DY} {h h' : AH} (C : MC s y h) (e : FGm h h') : MC s y h' := C.scr e (fun k w => by unfold IM at w; omega)
theorem M_laysGame_g {s : ST} {y : DY} {h : AH} (C : MC s y h) {a b tg : Nat} (ha : a < 4) (hb : b < 4) (ht : tg ≤ 1) : GI 8 m_M_laysGame [.ref 88, .int (kI a), .int (kI b), .int (kI tg)] h (kI (rr 4 (WT s y a b 4 tg (yD y) (yL y)))) (fun h' => FGm h h' ∧ Mays s y a 96 (yD y) h' ∧ Stl s y a b 4 tg (yD y) h') := by
  have F := C.fix
  have n2 := C.wf.n12
  have p1 : 1 ≤ 2 ^ sN s := Nat.one_le_two_pow
  have p12 : 2 ^ sN s ≤ 2 ^ 12 := Nat.pow_le_pow_right (by omega) n2
  have p12' : (2 : Nat) ^ 12 = 4096 := rfl
  have hD := C.wy.1
  have hL := C.wy.l12 C.wf
  refine GIo (s_M_laysGame_0 ?_)
  refine ⟨by rw [kd_88 F]; rfl, by rw [kd_88 F]; rfl, ?_⟩
  rw [rv_88_21 F]
  refine GV.use (M_laysMays_g C ha (Or.inl rfl)) (by omega) (fun hA eA => ?_)
  obtain ⟨eA, MA⟩ := eA
  have CA := C.my eA (by omega)
  have FA := CA.fix
  refine ⟨by rw [kd_88 FA]; rfl, by rw [kd_88 FA]; rfl, ?_⟩
  rw [rv_88_22 FA]
  refine GV.use (M_laysMays_g CA hb (Or.inr rfl)) (by omega) (fun hB eB => ?_)
  obtain ⟨eB, MB⟩ := eB
  have CB := CA.my eB (by omega)
  have FB := CB.fix
  have MA' : Mays s y a 96 (yD y) hB := MA.fr eB (fun k w => by unfold IM at w; omega)
  have fB : FGm h hB := (eA.mono (fun a k w => by rcases w with w | w; exact Or.inl w; exact Or.inr (Or.inl w)) (fun _ _ w => w)).trans (eB.mono (fun a k w => by rcases w with w | w; exact Or.inl w; exact Or.inr (Or.inr (Or.inl w))) (fun _ _ w => w))
  refine ⟨by rw [kd_88 FB]; rfl, ?_⟩
  rw [M_everyCell_c CB (by omega)]
  suffices H : ∀ k, k ≤ 2 ^ sN s → yD y ≤ k → ∀ h2, F98 hB h2 → Stl s y a b 4 tg k h2 → Safe 7 m_M_laysGame (24, [.ref 88, unV, unV, .int (kI tg), .int (kI ((k : Int) - 1)), unV, unV], [], h2) (fun v h' => Eqv v (some (.int (kI (rr 4 (WT s y a b 4 tg (yD y) (yL y)))))) ∧ FGm h h' ∧ Mays s y a 96 (yD y) h' ∧ Stl s y a b 4 tg (yD y) h') by
    have := H (2 ^ sN s) (by omega) (by omega) hB (Fr_rfl _ _ _) (fun m l h1 h2 => by omega)
    rw [show ((2 ^ sN s : Nat) : Int) - 1 = ((2 ^ sN s - 1 : Nat) : Int) by omega] at this
    exact this
  have c98 : ∀ h2, F98 hB h2 → MC s y h2 := fun h2 e => CB.scr e (fun k w => by omega)
  have fin : ∀ k h2, k < 2 ^ sN s + 1 → k = yD y → F98 hB h2 → Stl s y a b 4 tg k h2 → Safe 7 m_M_laysGame (24, [.ref 88, unV, unV, .int (kI tg), .int (kI ((k : Int) - 1)), unV, unV], [], h2) (fun v h' => Eqv v (some (.int (kI (rr 4 (WT s y a b 4 tg (yD y) (yL y)))))) ∧ FGm h h' ∧ Mays s y a 96 (yD y) h' ∧ Stl s y a b 4 tg (yD y) h') := by
    intro k h2 hk ek e2 S2
    subst ek
    have C2 := c98 h2 e2
    have F2 := C2.fix
    have e98 := S2 (yD y) (yL y) (by omega) hD (by omega) ⟨subB_iff.mpr (subB_refl _), Or.inl ⟨rfl, rfl⟩⟩
    have ix' : ix (kI ((13 * yD y + yL y : Nat) : Int)) = 13 * yD y + yL y := ix_kI (by omega)
    have ib' : inB (kI ((13 * yD y + yL y : Nat) : Int)) 53248 = true := inB_kI (by omega) (by omega)
    refine s_M_laysGame_24 ?_
    have z : (yD y : Int) - 1 < (yD y : Int) := by omega
    simp (disch := omega) only [kd_88 F2, rv_88_1 F2, kd_89 F2, ln_89 F2, rv_88_23 F2, kd_98 F2, ln_98 F2, ix_lit, inB_lit, decide_true, Bool.true_or, Bool.or_true, true_and, and_true, kI_add, kI_sub, kI_mul, tn_add, Int.toNat_natCast, Int.reduceToNat, kI_le, kI_lt, kI_inj, decide_eq_true_eq, Bool.not_eq_true', decide_eq_false_iff_not, not_true_eq_false, not_false_eq_true, Classical.not_not, Bool.false_eq_true, if_true, if_false, z0, bI_k0, bI_k1, isB_b, isB_0, isB_1, kI_long, kd_stI, ln_stI, rv_stI, C2.i22, z, M_standNow_c C2, ix', ib', e98]
    exact ⟨rfl, fB.trans (e2.mono (fun a k w => Or.inr (Or.inr (Or.inr w))) (fun _ _ w => w)), MA'.fr e2 (fun k => by omega), S2⟩
  intro k
  induction k with
  | zero =>
    intro _ h0 h2 e2 S2
    exact fin 0 h2 (by omega) (by omega) e2 S2
  | succ k ih =>
    intro hk h0 h2 e2 S2
    by_cases zD : k < yD y
    · exact fin (k + 1) h2 (by omega) (by omega) e2 S2
    · have C2 := c98 h2 e2
      have F2 := C2.fix
      have ek : ((k + 1 : Nat) : Int) - 1 = (k : Int) := by omega
      refine s_M_laysGame_24 ?_
      rw [ek]
      have z : ¬ (k : Int) < (yD y : Int) := by omega
      simp (disch := omega) only [kd_88 F2, rv_88_1 F2, kd_89 F2, ln_89 F2, ix_lit, inB_lit, decide_true, Bool.true_or, Bool.or_true, true_and, and_true, kI_add, kI_sub, kI_mul, tn_add, Int.toNat_natCast, Int.reduceToNat, kI_le, kI_lt, kI_inj, decide_eq_true_eq, Bool.not_eq_true', decide_eq_false_iff_not, not_true_eq_false, not_false_eq_true, Classical.not_not, Bool.false_eq_true, if_true, if_false, z0, bI_k0, bI_k1, isB_b, isB_0, isB_1, kI_long, kd_stI, ln_stI, rv_stI, C2.i22, z]
      suffices H2 : ∀ l, l ≤ 13 → ∀ h3, F98 hB h3 → Stl s y a b 4 tg (k + 1) h3 → (∀ l', l' < l → cbP y k l' → ivA h3 98 (13 * k + l') = kI (rr 4 (WT s y a b 4 tg k l'))) → Safe 7 m_M_laysGame (39, [.ref 88, unV, unV, .int (kI tg), .int (kI k), .int (kI l), unV], [], h3) (fun v h' => Eqv v (some (.int (kI (rr 4 (WT s y a b 4 tg (yD y) (yL y)))))) ∧ FGm h h' ∧ Mays s y a 96 (yD y) h' ∧ Stl s y a b 4 tg (yD y) h') by
        exact H2 0 (by omega) h2 e2 S2 (fun l' hl' => by omega)
      refine down_ind 13 ?_ ?_
      · intro h3 e3 S3 R3
        refine s_M_laysGame_39 ?_
        have z13 : (12 : Int) < ((13 : Nat) : Int) := by omega
        have em : kI (k : Int) + kI (-1) = kI ((k : Int) - 1) := by rw [kI_add]; rfl
        rw [em]
        simp (disch := omega) only [ix_lit, inB_lit, decide_true, Bool.true_or, Bool.or_true, true_and, and_true, kI_add, kI_sub, kI_mul, tn_add, Int.toNat_natCast, Int.reduceToNat, kI_le, kI_lt, kI_inj, decide_eq_true_eq, Bool.not_eq_true', decide_eq_false_iff_not, not_true_eq_false, not_false_eq_true, Classical.not_not, Bool.false_eq_true, if_true, if_false, z0, bI_k0, bI_k1, isB_b, isB_0, isB_1, kI_long, kd_stI, ln_stI, rv_stI, z13]
        refine ih (by omega) (by omega) h3 e3 (fun m l h1 h2' h3' cb => ?_)
        by_cases qm : m = k
        · rw [qm] at cb ⊢
          exact R3 l (by omega) cb
        · exact S3 m l (by omega) h2' h3' cb
      · intro l hl ih2 h3 e3 S3 R3
        have C3 := c98 h3 e3
        have F3 := C3.fix
        refine s_M_laysGame_39 ?_
        rw [if_neg (by rw [decide_eq_true_eq, kI_lt (by omega) (by omega) (by omega) (by omega)]; omega), M_standOf_c (by omega)]
        refine ⟨by rw [kd_88 F3]; rfl, ?_⟩
        rw [M_canBe_c C3 (by omega) (by omega) (by omega)]
        refine ⟨fun cb => ?_, fun nb => ?_⟩
        · rw [if_neg (by decide)]
          have hl' := cbP_l C.wf C.wy (show k < 2 ^ sN s by omega) cb
          have e96 : ivA h3 96 (13 * k + l) = kI (mvF s a (yB y a) k l) := by
            rw [e3.2.2.2.2.2.1 96 _ (by omega)]
            exact MA' k l (by omega) (by omega) (by omega) cb
          have e97 : ivA h3 97 (13 * k + l) = kI (mvF s b (yB y b) k l) := by
            rw [e3.2.2.2.2.2.1 97 _ (by omega)]
            exact MB k l (by omega) (by omega) (by omega) cb
          have ix' : ix (kI ((13 * k + l : Nat) : Int)) = 13 * k + l := ix_kI (by omega)
          have ib' : inB (kI ((13 * k + l : Nat) : Int)) 53248 = true := inB_kI (by omega) (by omega)
          refine ⟨by rw [kd_88 F3]; rfl, by rw [kd_88 F3]; rfl, ?_⟩
          rw [M_mayAt_c C3 (by omega) (by omega) (by omega) (subB_iff.mp cb.1) e96 e97]
          refine ⟨by rw [kd_88 F3]; rfl, ?_⟩
          rw [M_gameAt_c C3 (by omega) (by omega) (by omega) ht (fun c hc => ?_)]
          · rw [rv_88_23 F3, kd_98 F3, ln_98 F3, ix', kI_add]
            refine ⟨rfl, ib', ?_⟩
            refine ih2 _ (e3.trans ((Fr_rfl (fun a _ => a = 98) JM h3).stI rfl _)) (fun m l' h1 h2' h3' cb' => ?_) (fun l' hl2 cb' => ?_)
            · rw [iv_stI, if_neg (by omega)]; exact S3 m l' h1 h2' h3' cb'
            · rw [iv_stI]
              by_cases ql : l' = l
              · rw [if_pos (by omega), ql]
              · rw [if_neg (by omega)]; exact R3 l' (by omega) cb'
          · have hb := mvG_N C.wf hc
            have hlt := bit_lt hb.2
            exact S3 _ _ (by omega) (or_lt2 (by omega) hb.1) (by omega) (cb_next cb (by omega) hb.2)
        · rw [if_pos (by decide), kI_add]
          refine ih2 h3 e3 S3 (fun l' hl2 cb' => ?_)
          by_cases ql : l' = l
          · rw [ql] at cb'; exact absurd cb' nb
          · exact R3 l' (by omega) cb'
def gmP (s : ST) (a b o : Int) : Prop := (0 ≤ a ∧ a < sH s) ∧ (0 ≤ b ∧ b < sH s) ∧ (0 ≤ o ∧ o ≤ 1)
theorem M_isGame_c {s : ST} {y : DY} {d : Nat} {h : AH} (C : MC s y h) (hd : 3 ≤ d) {a b o : Int} (a1 : -2147483648 ≤ a) (a2 : a ≤ 2147483647) (b1 : -2147483648 ≤ b) (b2 : b ≤ 2147483647) (o1 : -2147483648 ≤ o) (o2 : o ≤ 2147483647) {K : Int32 → AH → Prop} : CallI d m_M_isGame [.ref 88, .int (kI a), .int (kI b), .int (kI o)] h K ↔ ((gmP s a b o → K (kI 1) h) ∧ (¬ gmP s a b o → K (kI 0) h)) := by
  have F := C.fix
  have key : ∀ x : Int32, (x = kI 1 ∧ gmP s a b o) ∨ (x = kI 0 ∧ ¬ gmP s a b o) → Ret 3 m_M_isGame [.ref 88, .int (kI a), .int (kI b), .int (kI o)] h (some (.int x)) h := by
    intro x hx
    refine ret_of (s_M_isGame_0 ?_)
    refine ⟨by rw [kd_88 F]; rfl, ?_⟩
    rw [kI_long a1 a2, M_isHand_c C (by omega) (by omega) (by omega)]
    by_cases q1 : 0 ≤ a ∧ a < sH s
    · rw [if_neg (by rw [dec_b0]; exact fun z => z q1)]
      refine ⟨by rw [kd_88 F]; rfl, ?_⟩
      rw [kI_long b1 b2, M_isHand_c C (by omega) (by omega) (by omega)]
      by_cases q2 : 0 ≤ b ∧ b < sH s
      · rw [if_neg (by rw [dec_b0]; exact fun z => z q2), kI_long o1 o2, M_within_c (by omega) (by omega) (by omega) (by omega) (by omega) (by omega) (by omega)]
        by_cases q3 : 0 ≤ o ∧ o ≤ 1
        · rw [if_neg (by rw [dec_b0]; exact fun z => z q3)]
          have ex : x = kI 1 := by rcases hx with z | z; exact z.1; exact absurd ⟨q1, q2, q3⟩ z.2
          subst ex
          exact ⟨isB_1, rfl, rfl⟩
        · rw [if_pos (by rw [dec_b0]; exact q3)]
          have ex : x = kI 0 := by rcases hx with z | z; exact absurd z.2.2.2 q3; exact z.1
          subst ex
          exact ⟨isB_0, rfl, rfl⟩
      · rw [if_pos (by rw [dec_b0]; exact q2)]
        have ex : x = kI 0 := by rcases hx with z | z; exact absurd z.2.2.1 q2; exact z.1
        subst ex
        exact ⟨isB_0, rfl, rfl⟩
    · rw [if_pos (by rw [dec_b0]; exact q1)]
      have ex : x = kI 0 := by rcases hx with z | z; exact absurd z.2.1 q1; exact z.1
      subst ex
      exact ⟨isB_0, rfl, rfl⟩
  by_cases g : gmP s a b o
  · rw [Ret.I (key (kI 1) (Or.inl ⟨rfl, g⟩)) hd]
    exact ⟨fun w => ⟨fun _ => w, fun z => absurd g z⟩, fun w => w.1 g⟩
  · rw [Ret.I (key (kI 0) (Or.inr ⟨rfl, g⟩)) hd]
    exact ⟨fun w => ⟨fun z => absurd z g, fun _ => w⟩, fun w => w.2 g⟩
/-- the answers of the game -/
def winV (s : ST) (y : DY) (a b o : Nat) : Int := if 0 < WT s y a b 4 o (yD y) (yL y) then 1 else 0
def besV (s : ST) (y : DY) (a b o : Nat) : Int := match fsF (fun c => (mvG s y a b (yD y) (yL y)).testBit c && decide (WT s y a b 4 o (yD y ||| 2 ^ c) c < 0)) 0 12 with
  | some c => (c : Int)
  | none => -1
def lasV (s : ST) (y : DY) (a b o : Nat) : Int := if 0 < WT s y a b 4 o (yD y) (yL y) then WT s y a b 4 o (yD y) (yL y) - 1 else -(WT s y a b 4 o (yD y) (yL y)) - 1
theorem f0gm (h : AH) : FGm h (stI h 88 0 (kI 0)) := (f88 h).mono (fun _ _ w => Or.inl w) (fun _ _ w => w)
theorem M_game_no {s : ST} {y : DY} {h : AH} (C0 : MC s y h) {a b o : Int} (a1 : -2147483648 ≤ a) (a2 : a ≤ 2147483647) (b1 : -2147483648 ≤ b) (b2 : b ≤ 2147483647) (o1 : -2147483648 ≤ o) (o2 : o ≤ 2147483647) (no : ¬ gmP s a b o) {u : Nat} (hu : u = m_M_wins ∨ u = m_M_best ∨ u = m_M_lasts) : GI 9 u [.ref 88, .int (kI a), .int (kI b), .int (kI o)] h (kI (-2)) (FGm h) := by
  have F := C0.fix
  have C : MC s y (stI h 88 0 (kI 0)) := C0.fr (f88 h)
  rcases hu with e | e | e <;> subst e
  · refine GIo (s_M_wins_0 ⟨by rw [kd_88 F]; rfl, by rw [kd_stI, kd_88 F]; rfl, ?_⟩)
    rw [M_isGame_c C (by omega) a1 a2 b1 b2 o1 o2]
    exact ⟨fun z => absurd z no, fun _ => by rw [if_neg (by decide)]; exact ⟨rfl, f0gm h⟩⟩
  · refine GIo (s_M_best_0 ⟨by rw [kd_88 F]; rfl, by rw [kd_stI, kd_88 F]; rfl, ?_⟩)
    rw [M_isGame_c C (by omega) a1 a2 b1 b2 o1 o2]
    exact ⟨fun z => absurd z no, fun _ => by rw [if_neg (by decide)]; exact ⟨rfl, f0gm h⟩⟩
  · refine GIo (s_M_lasts_0 ⟨by rw [kd_88 F]; rfl, by rw [kd_stI, kd_88 F]; rfl, ?_⟩)
    rw [M_isGame_c C (by omega) a1 a2 b1 b2 o1 o2]
    exact ⟨fun z => absurd z no, fun _ => by rw [if_neg (by decide)]; exact ⟨rfl, f0gm h⟩⟩
theorem gm_nat {s : ST} {a b o : Nat} (h1 : a < sH s) (h2 : b < sH s) (h3 : o ≤ 1) : gmP s a b o := by unfold gmP; omega
theorem M_wins_g {s : ST} {y : DY} {h : AH} (C0 : MC s y h) {a b o : Nat} (h1 : a < sH s) (h2 : b < sH s) (h3 : o ≤ 1) : GI 9 m_M_wins [.ref 88, .int (kI a), .int (kI b), .int (kI o)] h (kI (winV s y a b o)) (FGm h) := by
  have F := C0.fix
  have C : MC s y (stI h 88 0 (kI 0)) := C0.fr (f88 h)
  have n4 := C.wf.2.2.2.2.2.1
  have w4 := WT_4 C.wf (y := y) (a := a) (b := b) (l := yL y) h3 (C.wy.m12 C.wf)
  refine GIo (s_M_wins_0 ⟨by rw [kd_88 F]; rfl, by rw [kd_stI, kd_88 F]; rfl, ?_⟩)
  rw [M_isGame_c C (by omega) (by omega) (by omega) (by omega) (by omega) (by omega) (by omega)]
  refine ⟨fun _ => ?_, fun z => absurd (gm_nat h1 h2 h3) z⟩
  rw [if_pos (by decide)]
  refine ⟨by rw [kd_88 C.fix]; rfl, ?_⟩
  refine GI.use (M_laysGame_g C (by omega) (by omega) h3) (by omega) (fun h3' e3 => ?_)
  unfold winV
  rw [rr_4]
  by_cases q : 0 < WT s y a b 4 o (yD y) (yL y)
  · rw [if_neg (show ¬ WT s y a b 4 o (yD y) (yL y) < 0 by omega), if_neg (by rw [decide_eq_true_eq, z0, kI_lt (by omega) (by omega) (by omega) (by omega)]; omega), if_pos q]
    exact ⟨rfl, (f0gm h).trans e3.1⟩
  · rw [if_pos (show WT s y a b 4 o (yD y) (yL y) < 0 by omega), if_pos (by rw [decide_eq_true_eq, z0, kI_lt (by omega) (by omega) (by omega) (by omega)]; omega), if_neg q]
    exact ⟨rfl, (f0gm h).trans e3.1⟩
theorem M_lasts_g {s : ST} {y : DY} {h : AH} (C0 : MC s y h) {a b o : Nat} (h1 : a < sH s) (h2 : b < sH s) (h3 : o ≤ 1) : GI 9 m_M_lasts [.ref 88, .int (kI a), .int (kI b), .int (kI o)] h (kI (lasV s y a b o)) (FGm h) := by
  have F := C0.fix
  have C : MC s y (stI h 88 0 (kI 0)) := C0.fr (f88 h)
  have n4 := C.wf.2.2.2.2.2.1
  have w4 := WT_4 C.wf (y := y) (a := a) (b := b) (l := yL y) h3 (C.wy.m12 C.wf)
  refine GIo (s_M_lasts_0 ⟨by rw [kd_88 F]; rfl, by rw [kd_stI, kd_88 F]; rfl, ?_⟩)
  rw [M_isGame_c C (by omega) (by omega) (by omega) (by omega) (by omega) (by omega) (by omega)]
  refine ⟨fun _ => ?_, fun z => absurd (gm_nat h1 h2 h3) z⟩
  rw [if_pos (by decide)]
  refine ⟨by rw [kd_88 C.fix]; rfl, ?_⟩
  refine GI.use (M_laysGame_g C (by omega) (by omega) h3) (by omega) (fun h3' e3 => ?_)
  unfold lasV
  rw [rr_4]
  by_cases q : 0 < WT s y a b 4 o (yD y) (yL y)
  · rw [if_neg (show ¬ WT s y a b 4 o (yD y) (yL y) < 0 by omega), if_neg (by rw [decide_eq_true_eq, z0, kI_lt (by omega) (by omega) (by omega) (by omega)]; omega), if_pos q]
    exact ⟨rfl, (f0gm h).trans e3.1⟩
  · rw [if_pos (show WT s y a b 4 o (yD y) (yL y) < 0 by omega), if_pos (by rw [decide_eq_true_eq, z0, kI_lt (by omega) (by omega) (by omega) (by omega)]; omega), if_neg q, kI_neg, kI_sub]
    exact ⟨rfl, (f0gm h).trans e3.1⟩
theorem M_best_g {s : ST} {y : DY} {h : AH} (C0 : MC s y h) {a b o : Nat} (h1 : a < sH s) (h2 : b < sH s) (h3 : o ≤ 1) : GI 9 m_M_best [.ref 88, .int (kI a), .int (kI b), .int (kI o)] h (kI (besV s y a b o)) (FGm h) := by
  have F := C0.fix
  have C : MC s y (stI h 88 0 (kI 0)) := C0.fr (f88 h)
  have n4 := C.wf.2.2.2.2.2.1
  have n2 := C.wf.n12
  have hD := C.wy.m12 C.wf
  have hD2 := C.wy.1
  have hL := C.wy.l12 C.wf
  refine GIo (s_M_best_0 ⟨by rw [kd_88 F]; rfl, by rw [kd_stI, kd_88 F]; rfl, ?_⟩)
  rw [M_isGame_c C (by omega) (by omega) (by omega) (by omega) (by omega) (by omega) (by omega)]
  refine ⟨fun _ => ?_, fun z => absurd (gm_nat h1 h2 h3) z⟩
  rw [if_pos (by decide)]
  refine ⟨by rw [kd_88 C.fix]; rfl, ?_⟩
  refine GI.use (M_laysGame_g C (by omega) (by omega) h3) (by omega) (fun h4 e4 => ?_)
  obtain ⟨e4, M4, S4⟩ := e4
  have C4 := C.gm e4
  have F4 := C4.fix
  have f4 := (f0gm h).trans e4
  have cb0 : cbP y (yD y) (yL y) := ⟨subB_iff.mpr (subB_refl _), Or.inl ⟨rfl, rfl⟩⟩
  have e96 : ivA h4 96 (13 * yD y + yL y) = kI (mvG s y a b (yD y) (yL y)) := by
    have : mvG s y a b (yD y) (yL y) = mvF s a (yB y a) (yD y) (yL y) := by
      unfold mvG
      rw [if_pos (by omega)]
    rw [this]
    exact M4 (yD y) (yL y) (by omega) hD2 hL cb0
  have mvl := mvG_lt C.wf y a b (yD y) (yL y)
  have hT : ∀ c, (mvG s y a b (yD y) (yL y)).testBit c = true → ivA h4 98 (13 * (yD y ||| 2 ^ c) + c) = kI (rr 4 (WT s y a b 4 o (yD y ||| 2 ^ c) c)) := fun c hc => by
    have hb := mvG_N C.wf hc
    have := bit_lt hb.2
    exact S4 _ _ (by omega) (or_lt2 hD2 hb.1) (by omega) (cb_next cb0 (by omega) hb.2)
  have hhi : ∀ k, sN s ≤ k → (mvG s y a b (yD y) (yL y)).testBit k = false := fun k hk => mvG_hi C.wf hk
  have ix' : ix (kI ((13 * yD y + yL y : Nat) : Int)) = 13 * yD y + yL y := ix_kI (by omega)
  have ib' : inB (kI ((13 * yD y + yL y : Nat) : Int)) 53248 = true := inB_kI (by omega) (by omega)
  obtain ⟨P, hP⟩ : ∃ P : Nat → Bool, P = fun c => (mvG s y a b (yD y) (yL y)).testBit c && decide (WT s y a b 4 o (yD y ||| 2 ^ c) c < 0) := ⟨_, rfl⟩
  suffices H : ∀ k, k ≤ sN s → (∀ j, j < k → P j = false) → Safe 8 m_M_best (29, [.ref 88, unV, unV, unV, .int (kI k)], [], h4) (fun v k => Eqv v (some (.int (kI (besV s y a b o)))) ∧ FGm h k) by
    exact H 0 (by omega) (fun j hj => by omega)
  have bes : besV s y a b o = match fsF P 0 12 with | some c => (c : Int) | none => -1 := by rw [hP]; rfl
  refine down_ind (sN s) ?_ ?_
  · intro nP
    have : fsF P 0 12 = none := by
      cases e : fsF P 0 12 with
      | none => rfl
      | some c =>
        have sp := fsF_some 12 0 c e
        by_cases qc : c < sN s
        · rw [nP c qc] at sp; cases sp.2.2.1
        · have := sp.2.2.1
          rw [hP] at this
          simp only [Bool.and_eq_true] at this
          rw [hhi c (by omega)] at this
          cases this.1
    refine s_M_best_29 ?_
    refine ⟨by rw [kd_88 F4]; rfl, ?_⟩
    rw [M_cells_c C4 (by omega), if_pos (by rw [decide_eq_true_eq, kI_le (by omega) (by omega) (by omega) (by omega)]; omega), bes, this]
    exact ⟨rfl, f4⟩
  · intro k hk ih nP
    refine s_M_best_29 ?_
    refine ⟨by rw [kd_88 F4]; rfl, ?_⟩
    rw [M_cells_c C4 (by omega), if_neg (by rw [decide_eq_true_eq, kI_le (by omega) (by omega) (by omega) (by omega)]; omega)]
    refine ⟨by rw [kd_88 F4]; rfl, by rw [kd_88 F4]; rfl, ?_⟩
    rw [M_standNow_c C4 (by omega), rv_88_21 F4, kd_96 F4, ln_96 F4, ix', e96, kI_long (by omega) (by omega)]
    refine ⟨rfl, ib', ?_⟩
    rw [M_isIn_c (by omega) (by omega) (by omega)]
    have step : P k = false → Safe 8 m_M_best (29, [.ref 88, unV, unV, unV, .int (kI k + kI 1)], [], h4) (fun v k => Eqv v (some (.int (kI (besV s y a b o)))) ∧ FGm h k) := fun z => by
      rw [kI_add]
      exact ih (fun j hj => by
        by_cases e : j = k
        · rw [e]; exact z
        · exact nP j (by omega))
    by_cases qb : (mvG s y a b (yD y) (yL y)).testBit k = true
    · rw [if_neg (by rw [dec_b0]; exact fun z => z qb)]
      refine ⟨by rw [kd_88 F4]; rfl, ?_⟩
      rw [M_standNow_c C4 (by omega)]
      refine ⟨by rw [kd_88 F4]; rfl, ?_⟩
      have w4 := WT_4 C.wf (y := y) (a := a) (b := b) (l := k) h3 (or_4096 hD (show k < 12 by omega))
      rw [M_gameBy_c C4 (by omega) hD hL (by omega), hT k qb, rr_4]
      by_cases q : WT s y a b 4 o (yD y ||| 2 ^ k) k < 0
      · rw [if_pos q, if_neg (by rw [decide_eq_true_eq, z0, kI_le (by omega) (by omega) (by omega) (by omega)]; omega)]
        have pk : P k = true := by rw [hP]; simp [qb, q]
        obtain ⟨c, hc⟩ := fsF_ex (p := P) (n := 12) (k := 0) (c := k) (by omega) (by omega) pk
        have sp := fsF_some 12 0 c hc
        have : c = k := by
          rcases Nat.lt_trichotomy c k with z | z | z
          · rw [nP c z] at sp; cases sp.2.2.1
          · exact z
          · have := sp.2.2.2 k (by omega) z
            rw [pk] at this; cases this
        rw [bes, hc, this]
        exact ⟨rfl, f4⟩
      · rw [if_neg q, if_pos (by rw [decide_eq_true_eq, z0, kI_le (by omega) (by omega) (by omega) (by omega)]; omega)]
        exact step (by rw [hP]; simp [q])
    · rw [if_pos (by rw [dec_b0]; exact qb)]
      exact step (by rw [hP]; simp [qb])
