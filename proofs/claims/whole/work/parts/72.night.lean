/-! night on both sides -/
def shk (x : Int32) : Int32 := kI 1103515245 * x + kI 12345
def t16 (x : Int32) : Nat := (x.toUInt32 >>> ((kI 16).toUInt32 &&& Int32.toUInt32 31)).toNat
theorem u32_kI (u : UInt32) : u.toInt32 = kI (u.toNat : Int) := by
  apply Int32.toBitVec_inj.mp
  show u.toBitVec = BitVec.ofInt 32 (u.toNat : Int)
  rw [BitVec.ofInt_natCast]
  exact (BitVec.ofNat_toNat 32 u.toBitVec ▸ (by simp [UInt32.toNat]))
theorem t16_kI (x : Int32) : ((x.toUInt32 >>> ((kI 16).toUInt32 &&& Int32.toUInt32 31)).toInt32) = kI (t16 x) := u32_kI _
theorem t16_lt (x : Int32) : t16 x < 65536 := by
  unfold t16
  rw [UInt32.toNat_shiftRight]
  have e : ((kI 16).toUInt32 &&& Int32.toUInt32 31).toNat % 32 = 16 := by decide
  rw [e, Nat.shiftRight_eq_div_pow]
  have := x.toUInt32.toNat_lt
  omega
def ndF (x : Int32) : Int × Int32 :=
  if t16 (shk x) % 6 = 3 then (500 + ((t16 (shk (shk x)) % 12 : Nat) : Int), shk (shk x))
  else if t16 (shk x) % 6 = 5 then (700 + ((t16 (shk (shk x)) % 12 : Nat) : Int), shk (shk x))
  else if t16 (shk x) % 6 < 3 then (100 * ((t16 (shk (shk x)) % 4 : Nat) : Int) + ((t16 (shk (shk (shk x))) % 12 : Nat) : Int), shk (shk (shk x)))
  else (600 + 10 * ((t16 (shk (shk x)) % 4 : Nat) : Int) + ((t16 (shk (shk (shk x))) % 10 : Nat) : Int), shk (shk (shk x)))
theorem ndF_b (x : Int32) : 0 ≤ (ndF x).1 ∧ (ndF x).1 < 800 := by
  unfold ndF
  split
  · show 0 ≤ 500 + ((t16 (shk (shk x)) % 12 : Nat) : Int) ∧ _
    omega
  · split
    · show 0 ≤ 700 + ((t16 (shk (shk x)) % 12 : Nat) : Int) ∧ _
      omega
    · split
      · show 0 ≤ 100 * ((t16 (shk (shk x)) % 4 : Nat) : Int) + ((t16 (shk (shk (shk x))) % 12 : Nat) : Int) ∧ _
        omega
      · show 0 ≤ 600 + 10 * ((t16 (shk (shk x)) % 4 : Nat) : Int) + ((t16 (shk (shk (shk x))) % 10 : Nat) : Int) ∧ _
        omega
def ntF (s : ST) : Nat → Int32 → DY → Nat → DY × Nat
  | 0, _, y, n => (y, n)
  | m + 1, x, y, n => if whyD s y (ndF x).1 = 0 then ntF s m (ndF x).2 (dD y (ndF x).1) (n + 1) else ntF s m (ndF x).2 y n
theorem X_shaken_c {d : Nat} (hd : 1 ≤ d) {h : AH} {x : Int32} {K : Int32 → AH → Prop} : CallI d m_X_shaken [.int x] h K ↔ K (shk x) h := by
  refine Ret.I (d := 1) (ret_of (s_X_shaken_0 ?_)) hd
  exact ⟨rfl, rfl⟩
theorem M_draw_c {d : Nat} (hd : 1 ≤ d) {h : AH} (F : Fix h) {x : Int32} (hx : ivA h 88 20 = x) {b : Nat} (h0 : 0 < b) (hb : b < 100) {K : Int32 → AH → Prop} : CallI d m_M_draw [.ref 88, .int (kI b)] h K ↔ K (kI ((t16 (shk x) % b : Nat) : Int)) (stI h 88 20 (shk x)) := by
  refine Ret.I (d := 1) (ret_of (s_M_draw_0 ?_)) hd
  have e : kI 1103515245 * x + kI 12345 = shk x := rfl
  have e2 := t16_kI (shk x)
  have l := t16_lt (shk x)
  have q : ¬ (b : Int) = 0 := by omega
  simp (disch := omega) only [kd_88 F, kd_stI, hx, e, iv_stI, and_self, if_true, e2, kI_rem, z0, kI_inj, q, decide_true, true_and, Bool.not_eq_true', decide_eq_false_iff_not, not_false_eq_true]
theorem X_nightDeed_c {d : Nat} (hd : 1 ≤ d) {h : AH} {x : Int32} {K : Int32 → AH → Prop} : CallI d m_X_nightDeed [.int (kI ((t16 (shk x) % 6 : Nat) : Int)), .int (kI (t16 (shk (shk x)))), .int (kI (if t16 (shk x) % 6 < 3 ∨ t16 (shk x) % 6 = 4 then (t16 (shk (shk (shk x))) : Int) else 0))] h K ↔ K (kI (ndF x).1) h := by
  refine Ret.I (d := 1) (ret_of (s_X_nightDeed_0 ?_)) hd
  have l1 := t16_lt (shk (shk x))
  have l2 := t16_lt (shk (shk (shk x)))
  have r1 : ∀ b : Nat, 0 < b → b < 100 → kI (t16 (shk (shk x))) - kI (t16 (shk (shk x))) / kI b * kI b = kI ((t16 (shk (shk x)) % b : Nat) : Int) := fun b h1 h2 => kI_rem (by omega) (by omega) (by omega)
  have r2 : ∀ b : Nat, 0 < b → b < 100 → kI (t16 (shk (shk (shk x)))) - kI (t16 (shk (shk (shk x)))) / kI b * kI b = kI ((t16 (shk (shk (shk x))) % b : Nat) : Int) := fun b h1 h2 => kI_rem (by omega) (by omega) (by omega)
  have a12 := r1 12 (by omega) (by omega)
  have a4 := r1 4 (by omega) (by omega)
  have b12 := r2 12 (by omega) (by omega)
  have b10 := r2 10 (by omega) (by omega)
  rw [show ((12 : Nat) : Int) = 12 from rfl] at a12 b12
  rw [show ((4 : Nat) : Int) = 4 from rfl] at a4
  rw [show ((10 : Nat) : Int) = 10 from rfl] at b10
  unfold ndF
  by_cases q3 : t16 (shk x) % 6 = 3
  · simp (disch := omega) only [q3, Int.cast_ofNat_Int, ix_lit, inB_lit, decide_true, Bool.true_or, Bool.or_true, true_and, and_true, kI_add, kI_sub, kI_mul, tn_add, Int.toNat_natCast, Int.reduceToNat, kI_le, kI_lt, kI_inj, decide_eq_true_eq, Bool.not_eq_true', decide_eq_false_iff_not, not_true_eq_false, not_false_eq_true, Classical.not_not, Bool.false_eq_true, if_true, if_false, z0, bI_k0, bI_k1, isB_b, isB_0, isB_1, kI_long, kd_stI, ln_stI, rv_stI, Int.reduceEq, a12]
  · rw [if_neg q3]
    by_cases q5 : t16 (shk x) % 6 = 5
    · simp (disch := omega) only [q5, Int.cast_ofNat_Int, ix_lit, inB_lit, decide_true, Bool.true_or, Bool.or_true, true_and, and_true, kI_add, kI_sub, kI_mul, tn_add, Int.toNat_natCast, Int.reduceToNat, kI_le, kI_lt, kI_inj, decide_eq_true_eq, Bool.not_eq_true', decide_eq_false_iff_not, not_true_eq_false, not_false_eq_true, Classical.not_not, Bool.false_eq_true, if_true, if_false, z0, bI_k0, bI_k1, isB_b, isB_0, isB_1, kI_long, kd_stI, ln_stI, rv_stI, Int.reduceEq, a12]
    · rw [if_neg q5]
      have w3 : ¬ ((t16 (shk x) % 6 : Nat) : Int) = 3 := by omega
      have w5 : ¬ ((t16 (shk x) % 6 : Nat) : Int) = 5 := by omega
      by_cases q : t16 (shk x) % 6 < 3
      · have w4 : ¬ ((t16 (shk x) % 6 : Nat) : Int) = 4 := by omega
        rw [if_pos (Or.inl q), if_pos q]
        simp (disch := omega) only [w3, w4, w5, ix_lit, inB_lit, decide_true, Bool.true_or, Bool.or_true, true_and, and_true, kI_add, kI_sub, kI_mul, tn_add, Int.toNat_natCast, Int.reduceToNat, kI_le, kI_lt, kI_inj, decide_eq_true_eq, Bool.not_eq_true', decide_eq_false_iff_not, not_true_eq_false, not_false_eq_true, Classical.not_not, Bool.false_eq_true, if_true, if_false, z0, bI_k0, bI_k1, isB_b, isB_0, isB_1, kI_long, kd_stI, ln_stI, rv_stI, Int.reduceEq, a4, b12]
        rw [Int.mul_comm]
        (all_goals first | exact ⟨rfl, rfl⟩ | exact ⟨rfl, trivial⟩ | rfl | trivial)
      · have w4 : ((t16 (shk x) % 6 : Nat) : Int) = 4 := by omega
        rw [if_pos (Or.inr (by omega)), if_neg q]
        simp (disch := omega) only [w4, ix_lit, inB_lit, decide_true, Bool.true_or, Bool.or_true, true_and, and_true, kI_add, kI_sub, kI_mul, tn_add, Int.toNat_natCast, Int.reduceToNat, kI_le, kI_lt, kI_inj, decide_eq_true_eq, Bool.not_eq_true', decide_eq_false_iff_not, not_true_eq_false, not_false_eq_true, Classical.not_not, Bool.false_eq_true, if_true, if_false, z0, bI_k0, bI_k1, isB_b, isB_0, isB_1, kI_long, kd_stI, ln_stI, rv_stI, Int.reduceEq, a4, b10]
        rw [Int.mul_comm _ 10]
        (all_goals first | exact ⟨rfl, rfl⟩ | exact ⟨rfl, trivial⟩ | rfl | trivial)
theorem X_night_g {T : Nat → Nat} {s : ST} {p : Nat} {y : DY} {v : Int} {hs : List DY} {nx : Nat} {h : AH} (B : BX T s p y v hs nx h) (x : Int32) {n : Nat} (n1 : 1 ≤ n) (n2 : n ≤ 40) : GI 9 m_X_night [.ref 1, .int x, .int (kI n)] h (kI ((ntF s n x y 0).2 : Nat)) (OutP T s p y (ntF s n x y 0).1 v hs (ntF s n x y 0).2 h) := by
  have F := B.F
  refine GIo (s_X_night_0 ?_)
  simp (disch := omega) only [kd_1 F, rv_1_4 F, rv_1_3 F, kd_10 F, ix_lit, inB_lit, decide_true, Bool.true_or, Bool.or_true, true_and, and_true, kI_add, kI_sub, kI_mul, tn_add, Int.toNat_natCast, Int.reduceToNat, kI_le, kI_lt, kI_inj, decide_eq_true_eq, Bool.not_eq_true', decide_eq_false_iff_not, not_true_eq_false, not_false_eq_true, Classical.not_not, Bool.false_eq_true, if_true, if_false, z0, bI_k0, bI_k1, isB_b, isB_0, isB_1, kI_long, kd_stI, ln_stI, rv_stI]
  rw [if_neg (by omega), if_pos (by omega)]
  refine X_copy B (by omega) (fun h1 v2 e1 B1 Z1 => ?_)
  suffices H : ∀ (m : Nat) (x' : Int32) (y' : DY) (k : Nat) (h2 : AH), m ≤ n → k + m ≤ n → Fr (IXd T) JM h h2 → BX T s p y' (v + k) hs nx h2 → XP y v2 10 h2 → ntF s n x y 0 = ntF s m x' y' k → Safe 8 m_X_night (33, [.ref 1, unV, .int (kI n), .int x', .int (kI k), .int (kI ((n - m : Nat) : Int)), unV, unV, unV], [], h2) (fun x' h' => Eqv x' (some (.int (kI ((ntF s n x y 0).2 : Nat)))) ∧ OutP T s p y (ntF s n x y 0).1 v hs (ntF s n x y 0).2 h h') by
    have := H n x y 0 h1 (by omega) (by omega) (e1.mono (fun a k w => Or.inr (Or.inl (by omega))) (fun _ _ w => w)) (by rw [show v + ((0 : Nat) : Int) = v by omega]; exact B1) Z1 rfl
    rw [Nat.sub_self] at this
    exact this
  intro m
  induction m with
  | zero =>
    intro x' y' k h2 _ hk e2 B2 Z2 et
    refine s_X_night_33 ?_
    simp (disch := omega) only [kd_1 B2.F, ix_lit, inB_lit, decide_true, Bool.true_or, Bool.or_true, true_and, and_true, kI_add, kI_sub, kI_mul, tn_add, Int.toNat_natCast, Int.reduceToNat, kI_le, kI_lt, kI_inj, decide_eq_true_eq, Bool.not_eq_true', decide_eq_false_iff_not, not_true_eq_false, not_false_eq_true, Classical.not_not, Bool.false_eq_true, if_true, if_false, z0, bI_k0, bI_k1, isB_b, isB_0, isB_1, kI_long, kd_stI, ln_stI, rv_stI, Nat.sub_zero, Int.le_refl]
    have et' : ntF s 0 x' y' k = (y', k) := rfl
    rw [et, et']
    exact GI.use (X_keptIfAny_g B2 Z2 B.wy (by omega)) (by omega) (fun h3 e3 => ⟨rfl, e2.trans (IXd_hist e3.1), e3.2⟩)
  | succ m ih =>
    intro x' y' k h2 hm hk e2 B2 Z2 et
    have F2 := B2.F
    have nb := ndF_b x'
    have l1 := t16_lt (shk x')
    have er : kI (t16 (shk x')) - kI (t16 (shk x')) / kI 6 * kI 6 = kI ((t16 (shk x') % 6 : Nat) : Int) := kI_rem (b := 6) (by omega) (by omega) (by omega)
    have key : ∀ x3 : Int32, x3 = (ndF x').2 → Safe 8 m_X_night (90, [.ref 1, unV, .int (kI n), .int x3, .int (kI k), .int (kI ((n - (m + 1) : Nat) : Int)), .int (kI ((t16 (shk x') % 6 : Nat) : Int)), .int (kI (t16 (shk (shk x')))), .int (kI (if t16 (shk x') % 6 < 3 ∨ t16 (shk x') % 6 = 4 then (t16 (shk (shk (shk x'))) : Int) else 0))], [], h2) (fun x' h' => Eqv x' (some (.int (kI ((ntF s n x y 0).2 : Nat)))) ∧ OutP T s p y (ntF s n x y 0).1 v hs (ntF s n x y 0).2 h h') := by
      intro x3 e3x
      subst e3x
      refine s_X_night_90 ?_
      simp (disch := omega) only [kd_1 F2, rv_1_3 F2, kd_8 F2, B2.r, decide_true, true_and, X_nightDeed_c, kI_long]
      refine GI.use (Pg_obey_g F2 B2.S PG8 B2.P B2.t B2.wy (by omega) (by omega)) (by omega) (fun h3 e3 => ?_)
      have wl := whyD_le s y' (ndF x').1
      have f3 := e2.trans (IXd_page e3.1)
      have Z3 := Z2.fp B.t PG10 PG8 (by omega) e3.1
      have et' : ntF s (m + 1) x' y' k = if whyD s y' (ndF x').1 = 0 then ntF s m (ndF x').2 (dD y' (ndF x').1) (k + 1) else ntF s m (ndF x').2 y' k := rfl
      rw [et'] at et
      have en : kI ((n - (m + 1) : Nat) : Int) + kI 1 = kI ((n - m : Nat) : Int) := by rw [kI_add]; congr 1; omega
      rw [en]
      simp (disch := omega) only [ix_lit, inB_lit, decide_true, Bool.true_or, Bool.or_true, true_and, and_true, kI_add, kI_sub, kI_mul, tn_add, Int.toNat_natCast, Int.reduceToNat, kI_le, kI_lt, kI_inj, decide_eq_true_eq, Bool.not_eq_true', decide_eq_false_iff_not, not_true_eq_false, not_false_eq_true, Classical.not_not, Bool.false_eq_true, if_true, if_false, z0, bI_k0, bI_k1, isB_b, isB_0, isB_1, kI_long, kd_stI, ln_stI, rv_stI]
      by_cases z : whyD s y' (ndF x').1 = 0
      · rw [if_pos z] at et
        rw [if_neg (by omega)]
        have B3 := B2.page e3.1 (B2.wy.ofD z) (e3.2.1 z)
        have := ih (ndF x').2 _ (k + 1) h3 (by omega) (by omega) f3 (by rw [show v + ((k + 1 : Nat) : Int) = v + k + 1 by omega]; exact B3) Z3 et
        exact this
      · rw [if_neg z] at et
        rw [if_pos (by omega)]
        have B3 := B2.page e3.1 B2.wy (e3.2.2 z)
        exact ih (ndF x').2 _ k h3 (by omega) (by omega) f3 B3 Z3 et
    refine s_X_night_33 ?_
    have c6 : ¬ kI 6 = 0 := by decide
    simp (disch := omega) only [t16_kI, X_shaken_c, er, kI_le, kI_lt, kI_inj, decide_eq_true_eq, Bool.not_eq_true', decide_eq_false_iff_not, c6, not_false_eq_true, true_and]
    rw [if_neg (by omega)]
    by_cases q : t16 (shk x') % 6 < 3 ∨ t16 (shk x') % 6 = 4
    · rw [if_pos q] at key
      have k2 : Safe 8 m_X_night (79, [.ref 1, unV, .int (kI n), .int (shk (shk x')), .int (kI k), .int (kI ((n - (m + 1) : Nat) : Int)), .int (kI ((t16 (shk x') % 6 : Nat) : Int)), .int (kI (t16 (shk (shk x')))), unV], [], h2) (fun x' h' => Eqv x' (some (.int (kI ((ntF s n x y 0).2 : Nat)))) ∧ OutP T s p y (ntF s n x y 0).1 v hs (ntF s n x y 0).2 h h') := by
        refine s_X_night_79 ?_
        simp (disch := omega) only [t16_kI, X_shaken_c]
        refine key _ ?_
        unfold ndF
        rw [if_neg (by omega), if_neg (by omega)]
        split <;> rfl
      by_cases q3 : t16 (shk x') % 6 < 3
      · rw [if_pos (by omega)]
        exact k2
      · rw [if_neg (by omega), if_neg (by omega)]
        exact k2
    · rw [if_neg q] at key
      rw [if_neg (by omega), if_pos (by omega)]
      refine key _ ?_
      unfold ndF
      by_cases q3 : t16 (shk x') % 6 = 3
      · rw [if_pos q3]
      · rw [if_neg q3, if_pos (by omega)]
