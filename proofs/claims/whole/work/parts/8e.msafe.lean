/-! the reference's safest strokes -/
theorem M_safeBy_c {s : ST} {y : DY} {d : Nat} {h : AH} (C : MC s y h) (hd : 3 ≤ d) {m l c : Nat} {v : Int} (hm : m < 4096) (hl : l ≤ 12) (hc : c < 12) (v1 : 0 ≤ v) (v2 : v ≤ 268435456) (hv : ivA h 98 (13 * (m ||| 2 ^ c) + c) = kI v) (ho : ivA h 101 c = kI (odF s y c)) {K : Int32 → AH → Prop} : CallI d m_M_safeBy [.ref 88, .int (kI ((13 * m + l : Nat) : Int)), .int (kI c)] h K ↔ K (kI (if v = 268435456 then 268435456 else odF s y c + v)) h := by
  have F := C.fix
  have hz := or_4096 hm hc
  refine Ret.I (d := 3) (ret_of (s_M_safeBy_0 ?_)) hd
  have ix' : ix (kI ((13 * (m ||| 2 ^ c) + c : Nat) : Int)) = 13 * (m ||| 2 ^ c) + c := ix_kI (by omega)
  have ib' : inB (kI ((13 * (m ||| 2 ^ c) + c : Nat) : Int)) 53248 = true := inB_kI (by omega) (by omega)
  refine ⟨by rw [kd_88 F]; rfl, ?_⟩
  rw [M_behind_c (by omega) hm hl hc, rv_88_23 F, kd_98 F, ln_98 F, ix', hv]
  refine ⟨rfl, ib', ?_⟩
  by_cases q : v = 268435456
  · rw [if_neg (by rw [q]; decide), if_pos q]
    exact ⟨rfl, rfl⟩
  · rw [if_pos (by rw [Bool.not_eq_true', decide_eq_false_iff_not, kI_inj (by omega) (by omega) (by omega) (by omega)]; exact q), if_neg q, rv_88_26 F, kd_88 F, kd_101 F, ln_101 F, ix_kI (by omega), ho, kI_add]
    exact ⟨rfl, rfl, inB_kI (by omega) (by omega), rfl, rfl⟩
theorem mnF_zero {ok : Nat → Bool} {w f : Nat → Int} (H : ∀ c, ok c = true → 0 ≤ w c + f c) {k : Nat} (h : mnF ok w f k ≤ 0) : ∀ t, mnF ok w f (k + t) = mnF ok w f k
  | 0 => rfl
  | t + 1 => by
    have ih := mnF_zero H h t
    rw [show k + (t + 1) = (k + t) + 1 by omega, mnF_s, ih]
    by_cases q : ok (k + t) = true
    · have := H _ q
      rw [if_pos q, if_neg (by omega)]
    · rw [if_neg q]
theorem rr_3 (v : Int) : rr 3 v = if v = 1048576 then 268435456 else v := rfl
def Sts (s : ST) (y : DY) (a n k : Nat) (h : AH) : Prop := ∀ m l, k ≤ m → m < 2 ^ sN s → l ≤ 12 → cbP y m l → pop m ≤ pop (yD y) + n → ivA h 98 (13 * m + l) = kI (rr 3 (WT s y a a 3 n m l))
def Ods (s : ST) (y : DY) (h : AH) : Prop := ∀ c, c < sN s → ivA h 101 c = kI (odF s y c)
theorem M_laysSafest_g {s : ST} {y : DY} {h : AH} (C : MC s y h) {a n : Nat} (hn : n ≤ 12) (M : Mays s y a 96 (yD y) h) (O : Ods s y h) : GI 5 m_M_laysSafest [.ref 88, .int (kI n)] h (kI (rr 3 (WT s y a a 3 n (yD y) (yL y)))) (fun h' => F98 h h' ∧ Sts s y a n (yD y) h') := by
  have F := C.fix
  have n2 := C.wf.n12
  have p1 : 1 ≤ 2 ^ sN s := Nat.one_le_two_pow
  have p12 : 2 ^ sN s ≤ 2 ^ 12 := Nat.pow_le_pow_right (by omega) n2
  have p12' : (2 : Nat) ^ 12 = 4096 := rfl
  have hD := C.wy.1
  have hL := C.wy.l12 C.wf
  have pD := pop_le (yD y)
  refine GIo (s_M_laysSafest_0 ?_)
  refine ⟨by rw [kd_88 F]; rfl, by rw [rv_88_1 F, kd_89 F]; rfl, by rw [rv_88_1 F, ln_89 F]; rfl, ?_⟩
  rw [rv_88_1 F, show ix (kI 22) = 22 from rfl, C.i22, M_bits_c (by omega) (by omega)]
  refine ⟨by rw [kd_88 F]; rfl, ?_⟩
  rw [M_everyCell_c C (by omega), kI_add]
  suffices H : ∀ k, k ≤ 2 ^ sN s → yD y ≤ k → ∀ h2, F98 h h2 → Sts s y a n k h2 → Safe 4 m_M_laysSafest (18, [.ref 88, unV, .int (kI ((pop (yD y) : Int) + n)), .int (kI ((k : Int) - 1)), unV, unV, unV, unV], [], h2) (fun v h' => Eqv v (some (.int (kI (rr 3 (WT s y a a 3 n (yD y) (yL y)))))) ∧ F98 h h' ∧ Sts s y a n (yD y) h') by
    have := H (2 ^ sN s) (by omega) (by omega) h (Fr_rfl _ _ _) (fun m l h1 h2 => by omega)
    rw [show ((2 ^ sN s : Nat) : Int) - 1 = ((2 ^ sN s - 1 : Nat) : Int) by omega] at this
    exact this
  have c98 : ∀ h2, F98 h h2 → MC s y h2 := fun h2 e => C.scr e (fun k w => by omega)
  have fin : ∀ k h2, k < 2 ^ sN s + 1 → k = yD y → F98 h h2 → Sts s y a n k h2 → Safe 4 m_M_laysSafest (18, [.ref 88, unV, .int (kI ((pop (yD y) : Int) + n)), .int (kI ((k : Int) - 1)), unV, unV, unV, unV], [], h2) (fun v h' => Eqv v (some (.int (kI (rr 3 (WT s y a a 3 n (yD y) (yL y)))))) ∧ F98 h h' ∧ Sts s y a n (yD y) h') := by
    intro k h2 hk ek e2 S2
    subst ek
    have C2 := c98 h2 e2
    have F2 := C2.fix
    have e98 := S2 (yD y) (yL y) (by omega) hD (by omega) ⟨subB_iff.mpr (subB_refl _), Or.inl ⟨rfl, rfl⟩⟩ (by omega)
    have ix' : ix (kI ((13 * yD y + yL y : Nat) : Int)) = 13 * yD y + yL y := ix_kI (by omega)
    have ib' : inB (kI ((13 * yD y + yL y : Nat) : Int)) 53248 = true := inB_kI (by omega) (by omega)
    refine s_M_laysSafest_18 ?_
    have z : (yD y : Int) - 1 < (yD y : Int) := by omega
    simp (disch := omega) only [kd_88 F2, rv_88_1 F2, kd_89 F2, ln_89 F2, rv_88_23 F2, kd_98 F2, ln_98 F2, ix_lit, inB_lit, decide_true, Bool.true_or, Bool.or_true, true_and, and_true, kI_add, kI_sub, kI_mul, tn_add, Int.toNat_natCast, Int.reduceToNat, kI_le, kI_lt, kI_inj, decide_eq_true_eq, Bool.not_eq_true', decide_eq_false_iff_not, not_true_eq_false, not_false_eq_true, Classical.not_not, Bool.false_eq_true, if_true, if_false, z0, bI_k0, bI_k1, isB_b, isB_0, isB_1, kI_long, kd_stI, ln_stI, rv_stI, C2.i22, z, M_standNow_c C2, ix', ib', e98]
    exact ⟨rfl, e2, S2⟩
  intro k
  induction k with
  | zero =>
    intro _ h0 h2 e2 S2
    exact fin 0 h2 (by omega) (by omega) e2 S2
  | succ k ih =>
    intro hk h0 h2 e2 S2
    by_cases zD : k < yD y
    · exact fin (k + 1) h2 (by omega) (by omega) e2 S2
    · have C2 := c98 h2 e2
      have F2 := C2.fix
      have ek : ((k + 1 : Nat) : Int) - 1 = (k : Int) := by omega
      refine s_M_laysSafest_18 ?_
      rw [ek]
      have z : ¬ (k : Int) < (yD y : Int) := by omega
      simp (disch := omega) only [kd_88 F2, rv_88_1 F2, kd_89 F2, ln_89 F2, ix_lit, inB_lit, decide_true, Bool.true_or, Bool.or_true, true_and, and_true, kI_add, kI_sub, kI_mul, tn_add, Int.toNat_natCast, Int.reduceToNat, kI_le, kI_lt, kI_inj, decide_eq_true_eq, Bool.not_eq_true', decide_eq_false_iff_not, not_true_eq_false, not_false_eq_true, Classical.not_not, Bool.false_eq_true, if_true, if_false, z0, bI_k0, bI_k1, isB_b, isB_0, isB_1, kI_long, kd_stI, ln_stI, rv_stI, C2.i22, z]
      suffices H2 : ∀ l, l ≤ 13 → ∀ h3, F98 h h3 → Sts s y a n (k + 1) h3 → (∀ l', l' < l → cbP y k l' → pop k ≤ pop (yD y) + n → ivA h3 98 (13 * k + l') = kI (rr 3 (WT s y a a 3 n k l'))) → Safe 4 m_M_laysSafest (32, [.ref 88, unV, .int (kI ((pop (yD y) : Int) + n)), .int (kI k), .int (kI l), unV, unV, unV], [], h3) (fun v h' => Eqv v (some (.int (kI (rr 3 (WT s y a a 3 n (yD y) (yL y)))))) ∧ F98 h h' ∧ Sts s y a n (yD y) h') by
        exact H2 0 (by omega) h2 e2 S2 (fun l' hl' => by omega)
      refine down_ind 13 ?_ ?_
      · intro h3 e3 S3 R3
        refine s_M_laysSafest_32 ?_
        have z13 : (12 : Int) < ((13 : Nat) : Int) := by omega
        have em : kI (k : Int) + kI (-1) = kI ((k : Int) - 1) := by rw [kI_add]; rfl
        rw [em]
        simp (disch := omega) only [ix_lit, inB_lit, decide_true, Bool.true_or, Bool.or_true, true_and, and_true, kI_add, kI_sub, kI_mul, tn_add, Int.toNat_natCast, Int.reduceToNat, kI_le, kI_lt, kI_inj, decide_eq_true_eq, Bool.not_eq_true', decide_eq_false_iff_not, not_true_eq_false, not_false_eq_true, Classical.not_not, Bool.false_eq_true, if_true, if_false, z0, bI_k0, bI_k1, isB_b, isB_0, isB_1, kI_long, kd_stI, ln_stI, rv_stI, z13]
        refine ih (by omega) (by omega) h3 e3 (fun m l h1 h2' h3' cb pm => ?_)
        by_cases qm : m = k
        · rw [qm] at cb pm ⊢
          exact R3 l (by omega) cb pm
        · exact S3 m l (by omega) h2' h3' cb pm
      · intro l hl ih2 h3 e3 S3 R3
        have C3 := c98 h3 e3
        have F3 := C3.fix
        have zl : ¬ (12 : Int) < (l : Int) := by omega
        refine s_M_laysSafest_32 ?_
        simp (disch := omega) only [kd_88 F3, ix_lit, inB_lit, decide_true, Bool.true_or, Bool.or_true, true_and, and_true, kI_add, kI_sub, kI_mul, tn_add, Int.toNat_natCast, Int.reduceToNat, kI_le, kI_lt, kI_inj, decide_eq_true_eq, Bool.not_eq_true', decide_eq_false_iff_not, not_true_eq_false, not_false_eq_true, Classical.not_not, Bool.false_eq_true, if_true, if_false, z0, bI_k0, bI_k1, isB_b, isB_0, isB_1, kI_long, kd_stI, ln_stI, rv_stI, zl, M_canBe_c C3]
        refine ⟨fun cb => ?_, fun nb => ?_⟩
        · rw [if_neg (by omega)]
          have k12 : k < 4096 := by omega
          have pk := pop_le k
          have hl' := cbP_l C.wf C.wy (show k < 2 ^ sN s by omega) cb
          have sb := subB_iff.mp cb.1
          have px := pop_xor sb
          rw [M_bits_c (by omega) (by omega)]
          by_cases qe : pop k ≤ pop (yD y) + n
          · simp (disch := omega) only [kI_le, decide_eq_true_eq]
            rw [if_pos (by omega), M_standOf_c (by omega), M_bits_c (by omega) (by omega)]
            have e96 : ivA h3 96 (13 * k + l) = kI (mvG s y a a k l) := by
              rw [e3.2.2.2.2.2.1 96 _ (by omega), mvG_same]
              exact M k l (by omega) (by omega) (by omega) cb
            have ix' : ix (kI ((13 * k + l : Nat) : Int)) = 13 * k + l := ix_kI (by omega)
            have ib' : inB (kI ((13 * k + l : Nat) : Int)) 53248 = true := inB_kI (by omega) (by omega)
            have mvl := mvG_lt C.wf y a a k l
            have O3 : Ods s y h3 := fun c hc => by rw [e3.2.2.2.2.2.1 101 _ (by omega)]; exact O c hc
            have eq := WT_eq C.wf (y := y) (a := a) (b := a) (aim := 3) (tg := n) (l := l) k12
            have eq3 : WT s y a a 3 n k l = if pop k - pop (yD y) = n then 0 else mnF (mvG s y a a k l).testBit (odF s y) (fun c => WT s y a a 3 n (k ||| 2 ^ c) c) 12 := eq
            have fin2 : Safe 4 m_M_laysSafest (147, [.ref 88, unV, .int (kI ((pop (yD y) : Int) + n)), .int (kI k), .int (kI l), .int (kI ((13 * k + l : Nat) : Int)), .int (kI (rr 3 (WT s y a a 3 n k l))), unV], [], h3) (fun v h' => Eqv v (some (.int (kI (rr 3 (WT s y a a 3 n (yD y) (yL y)))))) ∧ F98 h h' ∧ Sts s y a n (yD y) h') := by
              refine s_M_laysSafest_147 ?_
              rw [rv_88_23 F3, kd_88 F3, kd_98 F3, ln_98 F3, ix', kI_add]
              refine ⟨rfl, rfl, ib', ?_⟩
              refine ih2 _ (e3.trans ((Fr_rfl (fun a _ => a = 98) JM h3).stI rfl _)) (fun m l' h1 h2' h3' cb' pm => ?_) (fun l' hl2 cb' pm => ?_)
              · rw [iv_stI, if_neg (by omega)]; exact S3 m l' h1 h2' h3' cb' pm
              · rw [iv_stI]
                by_cases ql : l' = l
                · rw [if_pos (by omega), ql]
                · rw [if_neg (by omega)]; exact R3 l' (by omega) cb' pm
            by_cases qn : pop k - pop (yD y) = n
            · rw [if_pos qn] at eq3
              have : pop k = pop (yD y) + n := by omega
              rw [if_neg (by rw [this]; simp)]
              refine s_M_laysSafest_88 ?_
              refine ⟨by rw [kd_88 F3]; rfl, ?_⟩
              rw [eq3] at fin2
              have n1 := C.wf.n1
              rw [M_cells_c C3 (by omega), if_neg (by rw [decide_eq_true_eq, kI_le (by omega) (by omega) (by omega) (by omega)]; omega), if_pos (by decide)]
              exact fin2
            · rw [if_neg qn] at eq3
              rw [if_pos (by rw [kI_inj (by omega) (by omega) (by omega) (by omega)]; omega)]
              obtain ⟨f, hf⟩ : ∃ f : Nat → Int, f = fun c => WT s y a a 3 n (k ||| 2 ^ c) c := ⟨_, rfl⟩
              rw [← hf] at eq3
              have fg : ∀ c, c < 12 → f c = 1048576 ∨ (0 ≤ f c ∧ f c ≤ 11988) := fun c hc => by
                have := WT_gd C.wf (y := y) (a := a) (b := a) (aim := 3) (tg := n) (l := c) (by omega) (or_4096 k12 hc)
                have e : f c = WT s y a a 3 n (k ||| 2 ^ c) c := by rw [hf]
                have p := pop_le (k ||| 2 ^ c)
                unfold Gd at this
                omega
              have mvN : ∀ c, (mvG s y a a k l).testBit c = true → c < sN s ∧ k.testBit c = false := fun c hc => mvG_N C.wf hc
              have hT : ∀ c, (mvG s y a a k l).testBit c = true → ivA h3 98 (13 * (k ||| 2 ^ c) + c) = kI (rr 3 (f c)) := fun c hc => by
                have hb := mvN c hc
                have hlt := bit_lt hb.2
                have e : f c = WT s y a a 3 n (k ||| 2 ^ c) c := by rw [hf]
                rw [e]
                exact S3 _ _ (by omega) (or_lt2 (by omega) hb.1) (by omega) (cb_next cb (by omega) hb.2) (by rw [pop_or (by omega) hb.2]; omega)
              have hhi : ∀ j, sN s ≤ j → (mvG s y a a k l).testBit j = false := fun j hj => mvG_hi C.wf hj
              have mne := mnF_n (w := odF s y) (f := f) n2 hhi
              generalize mvG s y a a k l = mv at *
              have mnb : ∀ j, j ≤ 12 → 0 ≤ mnF mv.testBit (odF s y) f j ∧ (mnF mv.testBit (odF s y) f j = 1048576 ∨ mnF mv.testBit (odF s y) f j ≤ 12987) := by
                intro j hj
                rcases mnF_at (ok := mv.testBit) (w := odF s y) (f := f) j with q | ⟨c, q1, q2, q3, q4⟩
                · omega
                · have := fg c (by omega)
                  have := odF_b s y c
                  omega
              suffices H3 : ∀ j, j ≤ sN s → Safe 4 m_M_laysSafest (88, [.ref 88, unV, .int (kI ((pop (yD y) : Int) + n)), .int (kI k), .int (kI l), .int (kI ((13 * k + l : Nat) : Int)), .int (kI (rr 3 (mnF mv.testBit (odF s y) f j))), .int (kI j)], [], h3) (fun v h' => Eqv v (some (.int (kI (rr 3 (WT s y a a 3 n (yD y) (yL y)))))) ∧ F98 h h' ∧ Sts s y a n (yD y) h') by
                exact H3 0 (by omega)
              refine down_ind (sN s) ?_ ?_
              · refine s_M_laysSafest_88 ?_
                refine ⟨by rw [kd_88 F3]; rfl, ?_⟩
                rw [M_cells_c C3 (by omega), if_pos (by rw [decide_eq_true_eq, kI_le (by omega) (by omega) (by omega) (by omega)]; omega), mne, ← eq3]
                exact fin2
              · intro j hj ih3
                have mj := mnb j (by omega)
                refine s_M_laysSafest_88 ?_
                refine ⟨by rw [kd_88 F3]; rfl, ?_⟩
                rw [M_cells_c C3 (by omega), if_neg (by rw [decide_eq_true_eq, kI_le (by omega) (by omega) (by omega) (by omega)]; omega)]
                have rb : 0 ≤ rr 3 (mnF mv.testBit (odF s y) f j) ∧ rr 3 (mnF mv.testBit (odF s y) f j) ≤ 268435456 := by
                  rw [rr_3]; split <;> omega
                by_cases q0 : mnF mv.testBit (odF s y) f j ≤ 0
                · have e0 : mnF mv.testBit (odF s y) f 12 = mnF mv.testBit (odF s y) f j := by
                    have := mnF_zero (ok := mv.testBit) (w := odF s y) (f := f) (fun c hc => by
                      have := fg c (by have := (mvN c hc).1; omega)
                      have := odF_b s y c
                      omega) q0 (12 - j)
                    rw [show j + (12 - j) = 12 by omega] at this
                    exact this
                  have r0 : rr 3 (mnF mv.testBit (odF s y) f j) = 0 := by rw [rr_3, if_neg (by omega)]; omega
                  rw [if_pos (by rw [r0]; decide), ← e0, ← eq3]
                  exact fin2
                · have r1 : 0 < rr 3 (mnF mv.testBit (odF s y) f j) := by rw [rr_3]; split <;> omega
                  rw [if_neg (by rw [decide_eq_true_eq, z0, kI_le (by omega) (by omega) (by omega) (by omega)]; omega), rv_88_21 F3, kd_88 F3, kd_96 F3, ln_96 F3, ix', e96, kI_long (by omega) (by omega)]
                  refine ⟨rfl, rfl, ib', ?_⟩
                  rw [M_isIn_c (by omega) (by omega) (by omega), kI_add]
                  rw [mnF_s] at ih3
                  by_cases qb : mv.testBit j = true
                  · rw [if_neg (by rw [dec_b0]; exact fun z => z qb)]
                    rw [if_pos qb] at ih3
                    have fj := fg j (by omega)
                    have oj := odF_b s y j
                    have rj : 0 ≤ rr 3 (f j) ∧ rr 3 (f j) ≤ 268435456 := by rw [rr_3]; split <;> omega
                    refine ⟨by rw [kd_88 F3]; rfl, ?_⟩
                    rw [M_safeBy_c C3 (by omega) k12 (by omega) (by omega) rj.1 rj.2 (hT j qb) (O3 j hj)]
                    have e1 : (if rr 3 (f j) = 268435456 then 268435456 else odF s y j + rr 3 (f j)) = if f j = 1048576 then 268435456 else odF s y j + f j := by
                      rw [rr_3]
                      by_cases q : f j = 1048576
                      · rw [if_pos q, if_pos rfl, if_pos q]
                      · rw [if_neg q, if_neg (by omega), if_neg q]
                    rw [e1]
                    by_cases q4 : odF s y j + f j < mnF mv.testBit (odF s y) f j
                    · have qf : ¬ f j = 1048576 := by omega
                      rw [if_pos q4] at ih3
                      rw [if_neg qf, if_neg (by rw [decide_eq_true_eq, kI_le (by omega) (by omega) (by omega) (by omega), rr_3]; split <;> omega)]
                      refine ⟨by rw [kd_88 F3]; rfl, ?_⟩
                      rw [M_safeBy_c C3 (by omega) k12 (by omega) (by omega) rj.1 rj.2 (hT j qb) (O3 j hj), e1, if_neg qf]
                      rw [rr_3, if_neg (by omega)] at ih3
                      exact ih3
                    · rw [if_neg q4] at ih3
                      have : rr 3 (mnF mv.testBit (odF s y) f j) ≤ (if f j = 1048576 then 268435456 else odF s y j + f j) := by
                        rw [rr_3]; split <;> split <;> omega
                      have b2 : (if f j = 1048576 then 268435456 else odF s y j + f j) ≤ 268435456 := by split <;> omega
                      rw [if_pos (by rw [decide_eq_true_eq, kI_le (by omega) (by omega) (by omega) (by omega)]; exact this)]
                      exact ih3
                  · rw [if_pos (by rw [dec_b0]; exact qb)]
                    rw [if_neg qb] at ih3
                    exact ih3
          · simp (disch := omega) only [kI_le, decide_eq_true_eq]
            rw [if_neg (by omega)]
            refine ih2 h3 e3 S3 (fun l' hl2 cb' pm => absurd pm qe)
        · refine ih2 h3 e3 S3 (fun l' hl2 cb' pm => ?_)
          by_cases ql : l' = l
          · rw [ql] at cb'; exact absurd cb' nb
          · exact R3 l' (by omega) cb' pm
