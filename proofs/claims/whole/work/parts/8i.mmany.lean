/-! the reference's ways -/
abbrev F100 (h h' : AH) : Prop := Fr I0 (fun a _ => a = 100) h h'
def TB (g : Nat → Nat → Nat) (h : AH) : Prop := ∀ m c, m < 4096 → c ≤ 12 → jvA h 100 (13 * m + c) = kJ (g m c : Nat)
theorem TB.congr {g g' : Nat → Nat → Nat} {h : AH} (t : TB g h) (e : ∀ m c, g m c = g' m c) : TB g' h := fun m c h1 h2 => by rw [← e]; exact t m c h1 h2
theorem CW_cb {s : ST} (w : WFS s) {y : DY} (wy : WFY s y) {a b : Nat} {bt : Nat → Bool} {m l : Nat} (h : 0 < CW (mvG s y a b) (yD y) (yL y) bt m l) : cbP y m l ∧ m < 2 ^ sN s ∧ l ≤ 12 := by
  have hN := CW_hi (N := sN s) (fun m l c hc => (mvG_N w hc).1) wy.1 m l h
  have m12 : m < 4096 := Nat.lt_of_lt_of_le hN (Nat.pow_le_pow_right (n := 2) (by omega) w.n12)
  have hL := wy.l12 w
  rcases CW_last h with q | ⟨q1, q2, q3⟩
  · exact ⟨⟨subB_iff.mpr (CW_sub m l h), Or.inl q⟩, hN, by omega⟩
  · have l12 : l < 12 := by
      by_cases z : l < 12
      · exact z
      · rw [bit_hi (n := 12) m12 (by omega)] at q2; cases q2
    exact ⟨⟨subB_iff.mpr (CW_sub m l h), Or.inr ⟨q1, l12, by rw [dif_bit, q2, q3]; rfl⟩⟩, hN, by omega⟩
theorem MC.f100 {s : ST} {y : DY} {h h' : AH} (C : MC s y h) (e : F100 h h') : MC s y h' := C.scr e (fun k w => w.elim)
abbrev Wy (s : ST) (y : DY) (a b : Nat) (bt : Nat → Bool) (m l : Nat) : Nat := CW (mvG s y a b) (yD y) (yL y) bt m l
def btF (but : Int) (c : Nat) : Bool := (c : Int) != but
theorem M_laysMany_g {s : ST} {y : DY} {h : AH} (C : MC s y h) {a : Nat} {but : Int} (b1 : -100 ≤ but) (b2 : but ≤ 100) (M : Mays s y a 96 (yD y) h) : GV 3 m_M_laysMany [.ref 88, .int (kI but)] h (fun h' => F100 h h' ∧ TB (Wy s y a a (btF but)) h') := by
  have F := C.fix
  have n2 := C.wf.n12
  have p1 : 1 ≤ 2 ^ sN s := Nat.one_le_two_pow
  have p12 : 2 ^ sN s ≤ 2 ^ 12 := Nat.pow_le_pow_right (by omega) n2
  have p12' : (2 : Nat) ^ 12 = 4096 := rfl
  have hD := C.wy.1
  have hL := C.wy.l12 C.wf
  have hmN : ∀ m l c, (mvG s y a a m l).testBit c = true → c < sN s := fun m l c hc => (mvG_N C.wf hc).1
  refine GVo (s_M_laysMany_0 ?_)
  suffices H : ∀ k, k ≤ 53248 → ∀ h2, F100 h h2 → (∀ j, j < k → jvA h2 100 j = kJ 0) → Safe 2 m_M_laysMany (2, [.ref 88, .int (kI but), .int (kI k), unV, unV, unV], [], h2) (fun v h' => Eqv v none ∧ F100 h h' ∧ TB (Wy s y a a (btF but)) h') by
    exact H 0 (by omega) h (Fr_rfl _ _ _) (fun j hj => by omega)
  refine down_ind 53248 ?_ ?_
  · intro h2 e2 Z2
    have C2 := C.f100 e2
    have F2 := C2.fix
    refine s_M_laysMany_2 ?_
    rw [if_pos (by decide)]
    refine ⟨by rw [kd_88 F2]; rfl, by rw [kd_88 F2]; rfl, ?_⟩
    have ix' : ix (kI ((13 * yD y + yL y : Nat) : Int)) = 13 * yD y + yL y := ix_kI (by omega)
    have ib' : inB (kI ((13 * yD y + yL y : Nat) : Int)) 53248 = true := inB_kI (by omega) (by omega)
    rw [M_standNow_c C2 (by omega), rv_88_25 F2, kd_100 F2, ln_100 F2, ix']
    have e3 : F100 h (stJ h2 100 (13 * yD y + yL y) (kJ 1)) := e2.stJ rfl _
    have C3 := C.f100 e3
    have F3 := C3.fix
    have T3 : TB (EW (mvG s y a a) (yD y) (yL y) (btF but) (yD y) 0) (stJ h2 100 (13 * yD y + yL y) (kJ 1)) := fun m c hm hc => by
      rw [EW_0, jv_stJ]
      unfold stF
      by_cases q : m = yD y ∧ c = yL y
      · rw [if_pos q, if_pos ⟨rfl, by rw [q.1, q.2]⟩]; rfl
      · rw [if_neg q, if_neg (by omega), Z2 _ (by omega)]; rfl
    generalize stJ h2 100 (13 * yD y + yL y) (kJ 1) = h3 at *
    rw [rv_88_1 F3, kd_88 F3, kd_89 F3, ln_89 F3, show ix (kI 22) = 22 from rfl, C3.i22]
    refine ⟨rfl, ib', rfl, rfl, by decide, ?_⟩
    suffices H : ∀ k, k ≤ 2 ^ sN s → yD y ≤ k → ∀ h4, F100 h h4 → TB (EW (mvG s y a a) (yD y) (yL y) (btF but) k 0) h4 → Safe 2 m_M_laysMany (39, [.ref 88, .int (kI but), .int (kI k), unV, unV, unV], [], h4) (fun v h' => Eqv v none ∧ F100 h h' ∧ TB (Wy s y a a (btF but)) h') by
      exact H (yD y) (by omega) (by omega) h3 e3 T3
    refine down_ind (2 ^ sN s) ?_ ?_
    · intro _ h4 e4 T4
      have C4 := C.f100 e4
      refine s_M_laysMany_39 ?_
      refine ⟨by rw [kd_88 C4.fix]; rfl, ?_⟩
      rw [M_everyCell_c C4 (by omega), if_pos (by rw [decide_eq_true_eq, kI_lt (by omega) (by omega) (by omega) (by omega)]; omega)]
      exact ⟨rfl, e4, T4.congr (fun m c => EW_end hmN hD)⟩
    · intro k hk ih hDk h4 e4 T4
      have C4 := C.f100 e4
      refine s_M_laysMany_39 ?_
      refine ⟨by rw [kd_88 C4.fix]; rfl, ?_⟩
      rw [M_everyCell_c C4 (by omega), if_neg (by rw [decide_eq_true_eq, kI_lt (by omega) (by omega) (by omega) (by omega)]; omega)]
      suffices H : ∀ l, l ≤ 13 → ∀ h5, F100 h h5 → TB (EW (mvG s y a a) (yD y) (yL y) (btF but) k l) h5 → Safe 2 m_M_laysMany (49, [.ref 88, .int (kI but), .int (kI k), .int (kI l), unV, unV], [], h5) (fun v h' => Eqv v none ∧ F100 h h' ∧ TB (Wy s y a a (btF but)) h') by
        exact H 0 (by omega) h4 e4 T4
      refine down_ind 13 ?_ ?_
      · intro h5 e5 T5
        refine s_M_laysMany_49 ?_
        rw [if_pos (by decide), kI_add]
        exact ih (by omega) h5 e5 (T5.congr (fun m c => EW_next _ _ _ _ _ _ _))
      · intro l hl ih2 h5 e5 T5
        have C5 := C.f100 e5
        have F5 := C5.fix
        have ix' : ix (kI ((13 * k + l : Nat) : Int)) = 13 * k + l := ix_kI (by omega)
        have ib' : inB (kI ((13 * k + l : Nat) : Int)) 53248 = true := inB_kI (by omega) (by omega)
        have own := T5 k l (by omega) (by omega)
        rw [EW_done (Nat.le_refl k)] at own
        have cl := CW_lt (mv := mvG s y a a) (D := yD y) (L := yL y) (bt := btF but) (l := l) (show k < 4096 by omega)
        refine s_M_laysMany_49 ?_
        rw [if_neg (by rw [decide_eq_true_eq, kI_lt (by omega) (by omega) (by omega) (by omega)]; omega), M_standOf_c (by omega), rv_88_25 F5, kd_88 F5, kd_100 F5, ln_100 F5, ix', own]
        refine ⟨rfl, rfl, ib', ?_⟩
        by_cases qz : CW (mvG s y a a) (yD y) (yL y) (btF but) k l = 0
        · rw [if_neg (by rw [qz]; decide), kI_add]
          refine ih2 h5 e5 (T5.congr (fun m c => ?_))
          rw [EW_step, qz]
          split <;> rfl
        · rw [if_pos (by rw [Bool.not_eq_true', decide_eq_false_iff_not, cmp_eq, kJ_inj (by omega) (by omega) (by omega) (by omega)]; omega)]
          obtain ⟨cb, _, _⟩ := CW_cb C.wf C.wy (show 0 < CW (mvG s y a a) (yD y) (yL y) (btF but) k l by omega)
          obtain ⟨cw, hcw⟩ : ∃ cw, cw = CW (mvG s y a a) (yD y) (yL y) (btF but) k l := ⟨_, rfl⟩
          have mvl := mvG_lt C.wf y a a k l
          suffices H : ∀ j, j ≤ sN s → ∀ h6, F100 h h6 → TB (fun m c => EW (mvG s y a a) (yD y) (yL y) (btF but) k l m c + (if c < j ∧ (m.testBit c = true ∧ btF but c = true ∧ m ^^^ 2 ^ c = k ∧ (mvG s y a a k l).testBit c = true) then cw else 0)) h6 → Safe 2 m_M_laysMany (80, [.ref 88, .int (kI but), .int (kI k), .int (kI l), .int (kI ((13 * k + l : Nat) : Int)), .int (kI j)], [], h6) (fun v h' => Eqv v none ∧ F100 h h' ∧ TB (Wy s y a a (btF but)) h') by
            exact H 0 (by omega) h5 e5 (T5.congr (fun m c => by rw [if_neg (by omega)]; rfl))
          refine down_ind (sN s) ?_ ?_
          · intro h6 e6 T6
            have C6 := C.f100 e6
            refine s_M_laysMany_80 ?_
            refine ⟨by rw [kd_88 C6.fix]; rfl, ?_⟩
            rw [M_cells_c C6 (by omega), if_pos (by rw [decide_eq_true_eq, kI_le (by omega) (by omega) (by omega) (by omega)]; omega), kI_add]
            refine ih2 h6 e6 (T6.congr (fun m c => ?_))
            rw [EW_step, ← hcw]
            congr 1
            by_cases q : m.testBit c = true ∧ btF but c = true ∧ m ^^^ 2 ^ c = k ∧ (mvG s y a a k l).testBit c = true
            · rw [if_pos q, if_pos ⟨hmN _ _ _ q.2.2.2, q⟩]
            · rw [if_neg q, if_neg (fun z => q z.2)]
          · intro j hj ih3 h6 e6 T6
            have C6 := C.f100 e6
            have F6 := C6.fix
            have skip : ¬ (btF but j = true ∧ (mvG s y a a k l).testBit j = true) → Safe 2 m_M_laysMany (80, [.ref 88, .int (kI but), .int (kI k), .int (kI l), .int (kI ((13 * k + l : Nat) : Int)), .int (kI j + kI 1)], [], h6) (fun v h' => Eqv v none ∧ F100 h h' ∧ TB (Wy s y a a (btF but)) h') := fun nz => by
              rw [kI_add]
              refine ih3 h6 e6 (T6.congr (fun m c => ?_))
              congr 1
              by_cases ec : c = j
              · rw [if_neg (by omega), if_neg (fun z => nz (by rw [← ec]; exact ⟨z.2.2.1, z.2.2.2.2⟩))]
              · by_cases lt : c < j
                · by_cases q : m.testBit c = true ∧ btF but c = true ∧ m ^^^ 2 ^ c = k ∧ (mvG s y a a k l).testBit c = true
                  · rw [if_pos ⟨lt, q⟩, if_pos ⟨by omega, q⟩]
                  · rw [if_neg (fun z => q z.2), if_neg (fun z => q z.2)]
                · rw [if_neg (by omega), if_neg (by omega)]
            refine s_M_laysMany_80 ?_
            refine ⟨by rw [kd_88 F6]; rfl, ?_⟩
            rw [M_cells_c C6 (by omega), if_neg (by rw [decide_eq_true_eq, kI_le (by omega) (by omega) (by omega) (by omega)]; omega)]
            by_cases qbt : (j : Int) = but
            · rw [if_pos (by rw [decide_eq_true_eq, qbt])]
              exact skip (fun z => by have := z.1; unfold btF at this; simp [qbt] at this)
            · have bj : btF but j = true := by unfold btF; simpa using qbt
              have e96 : ivA h6 96 (13 * k + l) = kI (mvG s y a a k l) := by
                rw [e6.2.2.2.2.2.1 96 _ (fun w => w), mvG_same]
                exact M k l hDk hk (by omega) cb
              rw [if_neg (by rw [decide_eq_true_eq, kI_inj (by omega) (by omega) (by omega) (by omega)]; exact qbt), rv_88_21 F6, kd_88 F6, kd_96 F6, ln_96 F6, ix', e96, kI_long (by omega) (by omega)]
              refine ⟨rfl, rfl, ib', ?_⟩
              rw [M_isIn_c (by omega) (by omega) (by omega)]
              by_cases qb : (mvG s y a a k l).testBit j = true
              · have hb := mvG_N C.wf qb
                have kj := bit_lt hb.2
                have kj2 := or_4096 (show k < 4096 by omega) (show j < 12 by omega)
                have ixj : ix (kI ((13 * (k ||| 2 ^ j) + j : Nat) : Int)) = 13 * (k ||| 2 ^ j) + j := ix_kI (by omega)
                have ibj : inB (kI ((13 * (k ||| 2 ^ j) + j : Nat) : Int)) 53248 = true := inB_kI (by omega) (by omega)
                have own6 := T6 k l (by omega) (by omega)
                dsimp only at own6
                rw [EW_done (Nat.le_refl k), if_neg (fun z => by have := xor_lt z.2.1; omega), Nat.add_zero] at own6
                have nx6 := T6 (k ||| 2 ^ j) j kj2 (by omega)
                dsimp only at nx6
                rw [if_neg (by omega), Nat.add_zero] at nx6
                rw [if_neg (by rw [dec_b0]; exact fun z => z qb)]
                refine ⟨by rw [kd_88 F6]; rfl, ?_⟩
                rw [M_behind_c (by omega) (by omega) (by omega) (by omega), rv_88_25 F6, kd_88 F6, kd_100 F6, ln_100 F6, ixj, own6, nx6, kJ_add, kI_add, ← hcw]
                refine ⟨rfl, ibj, rfl, rfl, ib', rfl, ibj, ?_⟩
                refine ih3 _ (e6.stJ rfl _) (fun m c hm hc => ?_)
                rw [jv_stJ]
                by_cases q : m = k ||| 2 ^ j ∧ c = j
                · obtain ⟨rfl, rfl⟩ := q
                  dsimp only
                  rw [if_pos ⟨rfl, rfl⟩, if_pos ⟨by omega, or_self_bit k c, bj, or_xor hb.2, qb⟩]
                  rfl
                · rw [if_neg (fun z => q (by omega)), T6 m c hm hc]
                  dsimp only
                  congr 3
                  by_cases ec : c = j
                  · rw [if_neg (by omega), if_neg (fun z => q ⟨by rw [← xor_or z.2.1, z.2.2.2.1, ec], ec⟩)]
                  · by_cases lt : c < j
                    · by_cases q2 : m.testBit c = true ∧ btF but c = true ∧ m ^^^ 2 ^ c = k ∧ (mvG s y a a k l).testBit c = true
                      · rw [if_pos ⟨lt, q2⟩, if_pos ⟨by omega, q2⟩]
                      · rw [if_neg (fun z => q2 z.2), if_neg (fun z => q2 z.2)]
                    · rw [if_neg (by omega), if_neg (by omega)]
              · rw [if_pos (by rw [dec_b0]; exact qb)]
                exact skip (fun z => qb z.2)
  · intro k hk ih h2 e2 Z2
    have C2 := C.f100 e2
    have F2 := C2.fix
    refine s_M_laysMany_2 ?_
    rw [if_neg (by rw [decide_eq_true_eq, kI_le (by omega) (by omega) (by omega) (by omega)]; omega), rv_88_25 F2, kd_88 F2, kd_100 F2, ln_100 F2, ix_kI (by omega), kI_add]
    refine ⟨rfl, rfl, inB_kI (by omega) hk, ?_⟩
    refine ih _ (e2.stJ rfl _) (fun j hj => ?_)
    rw [jv_stJ]
    by_cases q : j = k
    · rw [if_pos ⟨rfl, q⟩]
    · rw [if_neg (fun z => q z.2)]
      exact Z2 j (by omega)
def orF (f : Nat → Nat) : Nat → Nat
  | 0 => 0
  | k + 1 => orF f k ||| f k
theorem orF_s (f : Nat → Nat) (k : Nat) : orF f (k + 1) = orF f k ||| f k := rfl
theorem orF_bit (f : Nat → Nat) (c : Nat) : ∀ n, (orF f n).testBit c = true ↔ ∃ k, k < n ∧ (f k).testBit c = true
  | 0 => by
    constructor
    · intro h
      have : (0 : Nat).testBit c = true := h
      rw [Nat.zero_testBit] at this; cases this
    · rintro ⟨k, h, _⟩; omega
  | n + 1 => by
    rw [orF_s, Nat.testBit_or, Bool.or_eq_true, orF_bit f c n]
    constructor
    · rintro (⟨k, h1, h2⟩ | h)
      · exact ⟨k, by omega, h2⟩
      · exact ⟨n, by omega, h⟩
    · rintro ⟨k, h1, h2⟩
      by_cases e : k = n
      · right; rw [← e]; exact h2
      · left; exact ⟨k, by omega, h2⟩
theorem orF_lt {f : Nat → Nat} {N : Nat} (h : ∀ k, f k < 2 ^ N) : ∀ n, orF f n < 2 ^ N
  | 0 => Nat.two_pow_pos N
  | n + 1 => Nat.or_lt_two_pow (orF_lt h n) (h n)
theorem orF_0 {f : Nat → Nat} : ∀ {n : Nat}, (∀ k, k < n → f k = 0) → orF f n = 0
  | 0, _ => rfl
  | n + 1, h => by rw [orF_s, orF_0 (fun k hk => h k (by omega)), h n (by omega)]; rfl
/-- the mask, if it comes about -/
def gW (s : ST) (y : DY) (a b : Nat) (bt : Nat → Bool) (m : Nat) : Nat := if 0 < sumF (Wy s y a b bt m) 13 then m else 0
def rchV (s : ST) (y : DY) (a b : Nat) (bt : Nat → Bool) : Nat := dif (orF (gW s y a b bt) (2 ^ sN s)) (yD y)
theorem gW_lt {s : ST} (w : WFS s) {y : DY} (wy : WFY s y) (a b : Nat) (bt : Nat → Bool) (m : Nat) : gW s y a b bt m < 2 ^ sN s := by
  unfold gW
  split
  · rename_i q
    obtain ⟨l, _, h⟩ := sumF_ex q
    exact (CW_cb w wy h).2.1
  · exact Nat.two_pow_pos _
theorem rch_bit {s : ST} (w : WFS s) {y : DY} (wy : WFY s y) {a b : Nat} {bt : Nat → Bool} {c : Nat} : (rchV s y a b bt).testBit c = true ↔ ((yD y).testBit c = false ∧ ∃ m l, l < 13 ∧ 0 < Wy s y a b bt m l ∧ m.testBit c = true) := by
  unfold rchV
  rw [dif_bit, Bool.and_eq_true, orF_bit, Bool.not_eq_true']
  constructor
  · rintro ⟨⟨m, h1, h2⟩, h3⟩
    unfold gW at h2
    by_cases q : 0 < sumF (Wy s y a b bt m) 13
    · rw [if_pos q] at h2
      obtain ⟨l, h4, h5⟩ := sumF_ex q
      exact ⟨h3, m, l, h4, h5, h2⟩
    · rw [if_neg q, Nat.zero_testBit] at h2; cases h2
  · rintro ⟨h3, m, l, h4, h5, h2⟩
    refine ⟨⟨m, (CW_cb w wy h5).2.1, ?_⟩, h3⟩
    unfold gW
    rw [if_pos (Nat.lt_of_lt_of_le h5 (sumF_ge (f := Wy s y a b bt m) h4))]
    exact h2
theorem rch_lt {s : ST} (w : WFS s) {y : DY} (wy : WFY s y) (a b : Nat) (bt : Nat → Bool) : rchV s y a b bt < 4096 := dif_lt (n := 12) (Nat.lt_of_lt_of_le (orF_lt (gW_lt w wy a b bt) _) (Nat.pow_le_pow_right (n := 2) (by omega) w.n12))
theorem M_reachBut_g {s : ST} {y : DY} {h : AH} (C : MC s y h) {a : Nat} {but : Int} (b1 : -100 ≤ but) (b2 : but ≤ 100) (M : Mays s y a 96 (yD y) h) : GI 4 m_M_reachBut [.ref 88, .int (kI but)] h (kI (rchV s y a a (btF but) : Nat)) (F100 h) := by
  have F := C.fix
  have n2 := C.wf.n12
  have p1 : 1 ≤ 2 ^ sN s := Nat.one_le_two_pow
  have p12 : 2 ^ sN s ≤ 2 ^ 12 := Nat.pow_le_pow_right (by omega) n2
  have p12' : (2 : Nat) ^ 12 = 4096 := rfl
  have hD := C.wy.1
  have hL := C.wy.l12 C.wf
  refine GIo (s_M_reachBut_0 ?_)
  refine ⟨by rw [kd_88 F]; rfl, ?_⟩
  refine GV.use (M_laysMany_g C b1 b2 M) (by omega) (fun h1 e1 => ?_)
  obtain ⟨e1, T1⟩ := e1
  have C1 := C.f100 e1
  have F1 := C1.fix
  rw [rv_88_1 F1, kd_88 F1, kd_89 F1, ln_89 F1, show ix (kI 22) = 22 from rfl, C1.i22]
  refine ⟨rfl, rfl, by decide, ?_⟩
  have g0 : orF (gW s y a a (btF but)) (yD y) = 0 := orF_0 (fun k hk => by
    unfold gW
    rw [if_neg]
    intro z
    obtain ⟨l, _, h⟩ := sumF_ex z
    rw [show Wy s y a a (btF but) k l = 0 from CW_lo hk] at h
    omega)
  suffices H : ∀ k, k ≤ 2 ^ sN s → yD y ≤ k → Safe 3 m_M_reachBut (15, [.ref 88, unV, .int (kI (orF (gW s y a a (btF but)) k : Nat)), .int (kI k), unV], [], h1) (fun v h' => Eqv v (some (.int (kI (rchV s y a a (btF but) : Nat)))) ∧ F100 h h') by
    have := H (yD y) (by omega) (by omega)
    rw [g0] at this
    exact this
  refine down_ind (2 ^ sN s) ?_ ?_
  · intro _
    refine s_M_reachBut_15 ?_
    refine ⟨by rw [kd_88 F1]; rfl, ?_⟩
    rw [M_everyCell_c C1 (by omega), if_pos (by rw [decide_eq_true_eq, kI_lt (by omega) (by omega) (by omega) (by omega)]; omega), rv_88_1 F1, kd_88 F1, kd_89 F1, ln_89 F1, show ix (kI 22) = 22 from rfl, C1.i22, kI_dif]
    exact ⟨rfl, rfl, by decide, rfl, e1⟩
  · intro k hk ih hDk
    refine s_M_reachBut_15 ?_
    refine ⟨by rw [kd_88 F1]; rfl, ?_⟩
    rw [M_everyCell_c C1 (by omega), if_neg (by rw [decide_eq_true_eq, kI_lt (by omega) (by omega) (by omega) (by omega)]; omega)]
    suffices H : ∀ l, l ≤ 13 → Safe 3 m_M_reachBut (26, [.ref 88, unV, .int (kI ((orF (gW s y a a (btF but)) k ||| (if 0 < sumF (Wy s y a a (btF but) k) l then k else 0) : Nat) : Int)), .int (kI k), .int (kI l)], [], h1) (fun v h' => Eqv v (some (.int (kI (rchV s y a a (btF but) : Nat)))) ∧ F100 h h') by
      have := H 0 (by omega)
      rw [if_neg (by show ¬ 0 < 0; omega), Nat.or_zero] at this
      exact this
    refine down_ind 13 ?_ ?_
    · refine s_M_reachBut_26 ?_
      rw [if_pos (by decide), kI_add]
      exact ih (by omega)
    · intro l hl ih2
      have e := T1 k l (by omega) (by omega)
      have cl := CW_lt (mv := mvG s y a a) (D := yD y) (L := yL y) (bt := btF but) (l := l) (show k < 4096 by omega)
      have cl' : Wy s y a a (btF but) k l < 9223372036854775808 := cl
      refine s_M_reachBut_26 ?_
      rw [if_neg (by rw [decide_eq_true_eq, kI_lt (by omega) (by omega) (by omega) (by omega)]; omega)]
      refine ⟨by rw [kd_88 F1]; rfl, ?_⟩
      rw [M_standOf_c (by omega), rv_88_25 F1, kd_100 F1, ln_100 F1, ix_kI (by omega), e]
      refine ⟨rfl, inB_kI (by omega) (by omega), ?_⟩
      rw [sumF_s] at ih2
      by_cases q : Wy s y a a (btF but) k l = 0
      · rw [if_pos (by rw [decide_eq_true_eq, cmp_le, kJ_le (by omega) (by omega) (by omega) (by omega)]; omega), kI_add]
        rw [q, Nat.add_zero] at ih2
        exact ih2
      · rw [if_neg (by rw [decide_eq_true_eq, cmp_le, kJ_le (by omega) (by omega) (by omega) (by omega)]; omega), kI_add, kI_or]
        rw [if_pos (by omega)] at ih2
        have eo : (orF (gW s y a a (btF but)) k ||| (if 0 < sumF (Wy s y a a (btF but) k) l then k else 0)) ||| k = orF (gW s y a a (btF but)) k ||| k := by
          split
          · rw [Nat.or_assoc, Nat.or_self]
          · rw [Nat.or_zero]
        rw [eo]
        exact ih2
theorem btF_no : btF (-1) = fun _ => true := by
  funext c
  unfold btF
  simp
theorem btF_nat (k : Nat) : btF (k : Int) = fun c => c != k := by
  funext c
  unfold btF
  by_cases e : c = k
  · simp [e]
  · have : ¬ (c : Int) = (k : Int) := by omega
    rw [show (c != k) = true by simpa using e]
    simpa using this
abbrev FRc (h h' : AH) : Prop := Fr (fun a k => IM a k ∨ a = 96) (fun a _ => a = 100) h h'
theorem MC.rc {s : ST} {y : DY} {h h' : AH} (C : MC s y h) (e : FRc h h') : MC s y h' := C.scr e (fun k w => by unfold IM at w; omega)
theorem f0rc (h : AH) : FRc h (stI h 88 0 (kI 0)) := (f88 h).mono (fun _ _ w => Or.inl w) (fun _ _ w => w.elim)
theorem my_rc {h h' : AH} (e : FMy 96 h h') : FRc h h' := e.mono (fun _ _ w => w) (fun _ _ w => w.elim)
theorem f100_rc {h h' : AH} (e : F100 h h') : FRc h h' := e.mono (fun _ _ w => w.elim) (fun _ _ w => w)
def rchA (s : ST) (y : DY) (a : Int) : Int := if 0 ≤ a ∧ a < sH s then (rchV s y a.toNat a.toNat (fun _ => true) : Nat) else -2
theorem M_reach_g {s : ST} {y : DY} {h : AH} (C0 : MC s y h) {a : Int} (a1 : -2147483648 ≤ a) (a2 : a ≤ 2147483647) : GI 9 m_M_reach [.ref 88, .int (kI a)] h (kI (rchA s y a)) (FRc h) := by
  have F := C0.fix
  have C : MC s y (stI h 88 0 (kI 0)) := C0.fr (f88 h)
  have n4 := C.wf.2.2.2.2.2.1
  refine GIo (s_M_reach_0 ⟨by rw [kd_88 F]; rfl, by rw [kd_stI, kd_88 F]; rfl, ?_⟩)
  unfold rchA
  rw [kI_long (by omega) (by omega), M_isHand_c C (by omega) (by omega) (by omega)]
  by_cases q1 : 0 ≤ a ∧ a < sH s
  · obtain ⟨a', rfl⟩ : ∃ a' : Nat, a = a' := ⟨a.toNat, by omega⟩
    rw [if_pos (by rw [Bool.not_eq_true', decide_eq_false_iff_not, bI_0]; exact fun z => z q1), if_pos q1]
    refine ⟨by rw [kd_88 C.fix]; rfl, by rw [kd_88 C.fix]; rfl, ?_⟩
    rw [rv_88_21 C.fix]
    refine GV.use (M_laysMays_g C (show a' < 4 by omega) (Or.inl rfl)) (by omega) (fun h3 e3 => ?_)
    have C3 := C.my e3.1 (by omega)
    refine ⟨by rw [kd_88 C3.fix]; rfl, ?_⟩
    refine GI.use (M_reachBut_g C3 (but := -1) (by omega) (by omega) e3.2) (by omega) (fun h4 e4 => ?_)
    rw [btF_no]
    exact ⟨rfl, (f0rc h).trans ((my_rc e3.1).trans (f100_rc e4))⟩
  · rw [if_neg (by rw [Bool.not_eq_true', decide_eq_false_iff_not, bI_0]; exact fun z => z q1), if_neg q1]
    exact ⟨rfl, f0rc h⟩
def aheV (s : ST) (y : DY) (a c : Nat) : Nat := if (rchV s y a a (fun _ => true)).testBit c = true then bitsB (fun k => k != c && (!(yD y).testBit k && !(rchV s y a a (fun j => j != k)).testBit c)) (sN s) else 0
def aheA (s : ST) (y : DY) (a c : Int) : Int := if noG s y a c = 0 then (aheV s y a.toNat c.toNat : Nat) else noG s y a c
theorem M_ahead_g {s : ST} {y : DY} {h : AH} (C0 : MC s y h) {a c : Int} (a1 : -2147483648 ≤ a) (a2 : a ≤ 2147483647) (c1 : -2147483648 ≤ c) (c2 : c ≤ 2147483647) : GI 9 m_M_ahead [.ref 88, .int (kI a), .int (kI c)] h (kI (aheA s y a c)) (FRc h) := by
  have F := C0.fix
  have C : MC s y (stI h 88 0 (kI 0)) := C0.fr (f88 h)
  have n4 := C.wf.2.2.2.2.2.1
  have n2 := C.wf.n12
  have hD := C.wy.m12 C.wf
  have nb := noG_b s y a c
  refine GIo (s_M_ahead_0 ⟨by rw [kd_88 F]; rfl, by rw [kd_stI, kd_88 F]; rfl, ?_⟩)
  unfold aheA
  rw [M_noGoal_c C (by omega) a1 a2 c1 c2]
  by_cases q : noG s y a c = 0
  · obtain ⟨q1, q2, q3⟩ := noG_0 q
    obtain ⟨A, rfl⟩ : ∃ A : Nat, a = A := ⟨a.toNat, by omega⟩
    obtain ⟨e, rfl⟩ : ∃ e : Nat, c = e := ⟨c.toNat, by omega⟩
    rw [q, if_pos (by decide), if_pos rfl]
    refine ⟨by rw [kd_88 C.fix]; rfl, by rw [kd_88 C.fix]; rfl, ?_⟩
    rw [rv_88_21 C.fix]
    refine GV.use (M_laysMays_g C (show A < 4 by omega) (Or.inl rfl)) (by omega) (fun h3 e3 => ?_)
    have C3 := C.my e3.1 (by omega)
    refine ⟨by rw [kd_88 C3.fix]; rfl, ?_⟩
    refine GI.use (M_reachBut_g C3 (but := -1) (by omega) (by omega) e3.2) (by omega) (fun h4 e4 => ?_)
    have f4 : FRc h h4 := (f0rc h).trans ((my_rc e3.1).trans (f100_rc e4))
    have M4 : Mays s y A 96 (yD y) h4 := e3.2.fr e4 (fun k w => w)
    have rl := rch_lt C.wf C.wy A A (fun _ => true)
    rw [btF_no, kI_long (by omega) (by omega), M_isIn_c (by omega) (by omega) (by omega), Int.toNat_natCast, Int.toNat_natCast]
    unfold aheV
    by_cases qr : (rchV s y A A (fun _ => true)).testBit e = true
    · rw [if_pos (by rw [Bool.not_eq_true', decide_eq_false_iff_not, bI_0]; exact fun z => z qr), if_pos qr]
      suffices H : ∀ k, k ≤ sN s → ∀ h5, FRc h h5 → Mays s y A 96 (yD y) h5 → Safe 8 m_M_ahead (49, [.ref 88, unV, .int (kI e), unV, .int (kI (bitsB (fun k => k != e && (!(yD y).testBit k && !(rchV s y A A (fun j => j != k)).testBit e)) k : Nat)), .int (kI k)], [], h5) (fun v h' => Eqv v (some (.int (kI (bitsB (fun k => k != e && (!(yD y).testBit k && !(rchV s y A A (fun j => j != k)).testBit e)) (sN s) : Nat)))) ∧ FRc h h') by
        exact H 0 (by omega) h4 f4 M4
      refine down_ind (sN s) ?_ ?_
      · intro h5 f5 M5
        have C5 := C0.rc f5
        refine s_M_ahead_49 ?_
        refine ⟨by rw [kd_88 C5.fix]; rfl, ?_⟩
        rw [M_cells_c C5 (by omega), if_pos (by rw [decide_eq_true_eq, kI_le (by omega) (by omega) (by omega) (by omega)]; omega)]
        exact ⟨rfl, f5⟩
      · intro k hk ih h5 f5 M5
        have C5 := C0.rc f5
        have F5 := C5.fix
        refine s_M_ahead_49 ?_
        refine ⟨by rw [kd_88 F5]; rfl, ?_⟩
        rw [M_cells_c C5 (by omega), if_neg (by rw [decide_eq_true_eq, kI_le (by omega) (by omega) (by omega) (by omega)]; omega)]
        have skip : ∀ h6, FRc h h6 → Mays s y A 96 (yD y) h6 → (k != e && (!(yD y).testBit k && !(rchV s y A A (fun j => j != k)).testBit e)) = false → Safe 8 m_M_ahead (49, [.ref 88, unV, .int (kI e), unV, .int (kI (bitsB (fun k => k != e && (!(yD y).testBit k && !(rchV s y A A (fun j => j != k)).testBit e)) k : Nat)), .int (kI k + kI 1)], [], h6) (fun v h' => Eqv v (some (.int (kI (bitsB (fun k => k != e && (!(yD y).testBit k && !(rchV s y A A (fun j => j != k)).testBit e)) (sN s) : Nat)))) ∧ FRc h h') := fun h6 f6 M6 z => by
          have := ih h6 f6 M6
          rw [bitsB_s, z, if_neg (by decide), Nat.or_zero] at this
          rw [kI_add]
          exact this
        by_cases qe : k = e
        · rw [if_pos (by rw [decide_eq_true_eq, qe])]
          exact skip h5 f5 M5 (by simp [qe])
        · rw [if_neg (by rw [decide_eq_true_eq, kI_inj (by omega) (by omega) (by omega) (by omega)]; omega), rv_88_1 F5, kd_88 F5, kd_89 F5, ln_89 F5, show ix (kI 22) = 22 from rfl, C5.i22, kI_long (by omega) (by omega)]
          refine ⟨rfl, rfl, by decide, ?_⟩
          rw [M_isIn_c (by omega) (by omega) (by omega)]
          by_cases qd : (yD y).testBit k = true
          · rw [if_pos (by rw [Bool.not_eq_true', decide_eq_false_iff_not, bI_0]; exact fun z => z qd)]
            exact skip h5 f5 M5 (by simp [qd])
          · have qd' : (yD y).testBit k = false := by simpa using qd
            rw [if_neg (by rw [Bool.not_eq_true', decide_eq_false_iff_not, bI_0]; exact fun z => z qd)]
            refine ⟨by rw [kd_88 F5]; rfl, ?_⟩
            refine GI.use (M_reachBut_g C5 (but := (k : Int)) (by omega) (by omega) M5) (by omega) (fun h6 e6 => ?_)
            have f6 := f5.trans (f100_rc e6)
            have M6 : Mays s y A 96 (yD y) h6 := M5.fr e6 (fun k w => w)
            have rl2 := rch_lt C.wf C.wy A A (fun j => j != k)
            rw [btF_nat, kI_long (by omega) (by omega), M_isIn_c (by omega) (by omega) (by omega)]
            by_cases qk : (rchV s y A A (fun j => j != k)).testBit e = true
            · rw [if_pos (by rw [Bool.not_eq_true', decide_eq_false_iff_not, bI_0]; exact fun z => z qk)]
              exact skip h6 f6 M6 (by simp [qk])
            · rw [if_neg (by rw [Bool.not_eq_true', decide_eq_false_iff_not, bI_0]; exact fun z => z qk)]
              have := ih h6 f6 M6
              rw [bitsB_s, if_pos (by simp [qe, qd', qk])] at this
              rw [kI_shl1 (by omega), kI_or, kI_add]
              exact this
    · rw [if_neg (by rw [Bool.not_eq_true', decide_eq_false_iff_not, bI_0]; exact fun z => z qr), if_neg qr]
      exact ⟨rfl, f4⟩
  · rw [if_neg (by rw [decide_eq_true_eq, z0, kI_inj (by omega) (by omega) (by omega) (by omega)]; exact q), if_neg q]
    exact ⟨rfl, f0rc h⟩
