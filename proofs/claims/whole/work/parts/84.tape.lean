/-! the tape: feed; fault -/
def b8 (x : Int32) : Nat := x.toUInt32.toNat % 256
def sb (n : Nat) : Int := if n < 128 then (n : Int) else (n : Int) - 256
theorem b8_lt (x : Int32) : b8 x < 256 := Nat.mod_lt _ (by omega)
theorem b8_and (x : Int32) : x &&& kI 255 = kI (b8 x) := by
  have e : x = kI (x.toUInt32.toNat : Int) := u32_kI x.toUInt32
  have e2 : x &&& kI 255 = kI (x.toUInt32.toNat : Int) &&& kI ((255 : Nat) : Int) := by rw [← e]; rfl
  rw [e2, kI_and]
  unfold b8
  have e3 : x.toUInt32.toNat &&& 255 = x.toUInt32.toNat % 2 ^ 8 := Nat.and_two_pow_sub_one_eq_mod _ 8
  rw [e3]
theorem b8_int8 (x : Int32) : x.toInt8.toInt32 = kI (sb (b8 x)) := by
  apply Int32.toInt_inj.mp
  have l := b8_lt x
  have hs : -128 ≤ sb (b8 x) ∧ sb (b8 x) ≤ 127 := by unfold sb; split <;> omega
  rw [kI_toInt (by omega) (by omega), Int8.toInt_toInt32, Int32.toInt_toInt8]
  have hx : x.toInt = if 2 * x.toUInt32.toNat < 4294967296 then (x.toUInt32.toNat : Int) else (x.toUInt32.toNat : Int) - 4294967296 := by
    show x.toBitVec.toInt = _
    rw [BitVec.toInt_eq_toNat_cond]
    rfl
  have hn : x.toUInt32.toNat < 4294967296 := x.toUInt32.toNat_lt
  rw [hx]
  unfold sb b8
  simp only [Int.bmod]
  generalize x.toUInt32.toNat = n at hn ⊢
  split <;> split <;> split <;> omega
theorem int8_two (x : Int32) : x.toInt8.toInt32.toInt8.toInt32 = x.toInt8.toInt32 := by
  rw [Int8.toInt8_toInt32]
/-- the j-th byte of an int, the highest first -/
def byF (x : Int32) (j : Nat) : Nat := b8 (x >>> (kI (24 - 8 * (j : Int)) &&& 31))
def TX (tp : Nat → Nat) (n : Nat) (h : AH) : Prop := (n ≤ 900) ∧ (ivA h 1 1 = kI n) ∧ (∀ k, k < n → ivA h 2 k = kI (sb (tp k)))
theorem TX.le {tp : Nat → Nat} {n : Nat} {h : AH} (C : TX tp n h) : n ≤ 900 := C.1
theorem TX.i {tp : Nat → Nat} {n : Nat} {h : AH} (C : TX tp n h) : ivA h 1 1 = kI n := C.2.1
theorem TX.v {tp : Nat → Nat} {n : Nat} {h : AH} (C : TX tp n h) : ∀ k, k < n → ivA h 2 k = kI (sb (tp k)) := C.2.2
def TM (tp : Nat → Nat) (n : Nat) (h : AH) : Prop := (n ≤ 900) ∧ (ivA h 88 5 = kI n) ∧ (∀ k, k < n → ivA h 91 k = kI (tp k)) ∧ (∀ k, k < n → tp k < 256)
theorem TM.le {tp : Nat → Nat} {n : Nat} {h : AH} (C : TM tp n h) : n ≤ 900 := C.1
theorem TM.i {tp : Nat → Nat} {n : Nat} {h : AH} (C : TM tp n h) : ivA h 88 5 = kI n := C.2.1
theorem TM.v {tp : Nat → Nat} {n : Nat} {h : AH} (C : TM tp n h) : ∀ k, k < n → ivA h 91 k = kI (tp k) := C.2.2.1
theorem TM.b {tp : Nat → Nat} {n : Nat} {h : AH} (C : TM tp n h) : ∀ k, k < n → tp k < 256 := C.2.2.2
def ITp (a k : Nat) : Prop := (a = 1 ∧ k = 1) ∨ a = 2
theorem X_tapeFour_g {h : AH} (F : Fix h) {n : Nat} (hn : n + 4 ≤ 900) (i1 : ivA h 1 1 = kI n) (x : Int32) : GV 1 m_X_tapeFour [.ref 1, .int x] h (fun h' => Fr ITp JM h h' ∧ ivA h' 1 1 = kI ((n + 4 : Nat) : Int) ∧ (∀ j, j < 4 → ivA h' 2 (n + j) = kI (sb (byF x j))) ∧ ∀ k, k < n → ivA h' 2 k = ivA h 2 k) := by
  refine GVo (s_X_tapeFour_0 ?_)
  suffices H : ∀ j, j ≤ 4 → ∀ h1, Fr ITp JM h h1 → ivA h1 1 1 = kI ((n + j : Nat) : Int) → (∀ i, i < j → ivA h1 2 (n + i) = kI (sb (byF x i))) → (∀ k, k < n → ivA h1 2 k = ivA h 2 k) → Safe 0 m_X_tapeFour (3, [.ref 1, .int x, .int (kI (24 - 8 * (j : Int)))], [], h1) (fun v h' => Eqv v none ∧ Fr ITp JM h h' ∧ ivA h' 1 1 = kI ((n + 4 : Nat) : Int) ∧ (∀ j, j < 4 → ivA h' 2 (n + j) = kI (sb (byF x j))) ∧ ∀ k, k < n → ivA h' 2 k = ivA h 2 k) by
    exact H 0 (by omega) h (Fr_rfl _ _ _) i1 (fun i hi => by omega) (fun k _ => rfl)
  refine down_ind 4 ?_ ?_
  · intro h1 e1 i1 B1 K1
    refine s_X_tapeFour_3 ?_
    have z : (24 : Int) - 8 * ((4 : Nat) : Int) < 0 := by omega
    simp (disch := omega) only [ix_lit, inB_lit, decide_true, Bool.true_or, Bool.or_true, true_and, and_true, kI_add, kI_sub, kI_mul, tn_add, Int.toNat_natCast, Int.reduceToNat, kI_le, kI_lt, kI_inj, decide_eq_true_eq, Bool.not_eq_true', decide_eq_false_iff_not, not_true_eq_false, not_false_eq_true, Classical.not_not, Bool.false_eq_true, if_true, if_false, z0, bI_k0, bI_k1, isB_b, isB_0, isB_1, kI_long, kd_stI, ln_stI, rv_stI, z]
    exact ⟨rfl, e1, i1, B1, K1⟩
  · intro j hj ih h1 e1 i1 B1 K1
    have F1 := e1.fix F
    have z : ¬ (24 : Int) - 8 * (j : Int) < 0 := by omega
    have z2 : ¬ (900 : Int) ≤ ((n + j : Nat) : Int) := by omega
    have es : kI (24 - 8 * (j : Int)) + kI (-8) = kI (24 - 8 * ((j + 1 : Nat) : Int)) := by rw [kI_add]; congr 1; omega
    have ev : (x >>> (kI (24 - 8 * (j : Int)) &&& 31)).toInt8.toInt32.toInt8.toInt32 = kI (sb (byF x j)) := by rw [int8_two, b8_int8]; rfl
    refine s_X_tapeFour_3 ?_
    have ix' : ix (kI ((n + j : Nat) : Int)) = n + j := ix_kI (by omega)
    have ib' : inB (kI ((n + j : Nat) : Int)) 900 = true := inB_kI (by omega) (by omega)
    have zd : ¬ kI (24 - 8 * (j : Int)) < 0 := by rw [z0, kI_lt (by omega) (by omega) (by omega) (by omega)]; exact z
    have zd2 : ¬ kI ((900 : Nat) : Int) ≤ kI ((n + j : Nat) : Int) := by rw [kI_le (by omega) (by omega) (by omega) (by omega)]; omega
    rw [if_neg (by rw [decide_eq_true_eq]; exact zd)]
    simp only [kd_1 F1, rv_1_0 F1, kd_2 F1, ln_2 F1, isA, decide_true, Bool.true_or, Bool.true_and, Bool.or_true, true_and, Nat.reduceLeDiff, i1, ix', ib', kd_stI, ev, es]
    rw [if_neg (by rw [decide_eq_true_eq]; exact zd2)]
    have e2 : Fr ITp JM h (stI (stI h1 2 (n + j) (kI (sb (byF x j)))) 1 1 (ivA (stI h1 2 (n + j) (kI (sb (byF x j)))) 1 1 + kI 1)) := (e1.stI (Or.inr rfl) _).stI (Or.inl ⟨rfl, rfl⟩) _
    refine ih _ e2 ?_ (fun i hi => ?_) (fun k hk => ?_)
    · rw [iv_stI, if_pos ⟨rfl, rfl⟩, iv_stI, if_neg (by omega), i1, kI_add]
      rfl
    · rw [iv_stI, if_neg (by omega), iv_stI]
      by_cases q : i = j
      · rw [if_pos (by omega), q]
      · rw [if_neg (by omega)]
        exact B1 i (by omega)
    · rw [iv_stI, if_neg (by omega), iv_stI, if_neg (by omega)]
      exact K1 k hk
def arg5 (a b c d e : Int32) (j : Nat) : Int32 := if j = 0 then a else if j = 1 then b else if j = 2 then c else if j = 3 then d else e
def fdF (tp : Nat → Nat) (n : Nat) (a b c d e : Int32) (k : Nat) : Nat := if k < n then tp k else byF (arg5 a b c d e ((k - n) / 4)) ((k - n) % 4)
theorem X_feed_g {tp : Nat → Nat} {n : Nat} {h : AH} (F : Fix h) (t : TX tp n h) (hn : n + 20 ≤ 900) (a b c d e : Int32) : GI 2 m_X_feed [.ref 1, .int a, .int b, .int c, .int d, .int e] h (kI ((n + 20 : Nat) : Int)) (fun h' => Fr ITp JM h h' ∧ TX (fdF tp n a b c d e) (n + 20) h') := by
  refine GIo (s_X_feed_0 ?_)
  refine ⟨by rw [kd_1 F]; rfl, ?_⟩
  rw [t.i, kI_add, if_pos (by rw [decide_eq_true_eq, kI_le (by omega) (by omega) (by omega) (by omega)]; omega)]
  refine ⟨by rw [kd_1 F]; rfl, ?_⟩
  refine GV.use (X_tapeFour_g F (n := n) (by omega) t.i a) (by omega) (fun h1 e1 => ?_)
  have F1 := e1.1.fix F
  refine ⟨by rw [kd_1 F1]; rfl, ?_⟩
  refine GV.use (X_tapeFour_g F1 (n := n + 4) (by omega) e1.2.1 b) (by omega) (fun h2 e2 => ?_)
  have F2 := e2.1.fix F1
  refine ⟨by rw [kd_1 F2]; rfl, ?_⟩
  refine GV.use (X_tapeFour_g F2 (n := n + 4 + 4) (by omega) e2.2.1 c) (by omega) (fun h3 e3 => ?_)
  have F3 := e3.1.fix F2
  refine ⟨by rw [kd_1 F3]; rfl, ?_⟩
  refine GV.use (X_tapeFour_g F3 (n := n + 4 + 4 + 4) (by omega) e3.2.1 d) (by omega) (fun h4 e4 => ?_)
  have F4 := e4.1.fix F3
  refine ⟨by rw [kd_1 F4]; rfl, ?_⟩
  refine GV.use (X_tapeFour_g F4 (n := n + 4 + 4 + 4 + 4) (by omega) e4.2.1 e) (by omega) (fun h5 e5 => ?_)
  have F5 := e5.1.fix F4
  refine ⟨by rw [kd_1 F5]; rfl, ?_⟩
  have en : n + 4 + 4 + 4 + 4 + 4 = n + 20 := by omega
  have i5 := e5.2.1
  rw [en] at i5
  rw [i5]
  refine ⟨rfl, e1.1.trans (e2.1.trans (e3.1.trans (e4.1.trans e5.1))), by omega, i5, fun k hk => ?_⟩
  unfold fdF
  by_cases q0 : k < n
  · rw [if_pos q0, e5.2.2.2 k (by omega), e4.2.2.2 k (by omega), e3.2.2.2 k (by omega), e2.2.2.2 k (by omega), e1.2.2.2 k q0]
    exact t.v k q0
  · rw [if_neg q0]
    by_cases q1 : k < n + 4
    · have := e1.2.2.1 (k - n) (by omega)
      rw [show n + (k - n) = k by omega] at this
      rw [e5.2.2.2 k (by omega), e4.2.2.2 k (by omega), e3.2.2.2 k (by omega), e2.2.2.2 k (by omega), this, show (k - n) / 4 = 0 by omega, show (k - n) % 4 = k - n by omega]
      rfl
    · by_cases q2 : k < n + 8
      · have := e2.2.2.1 (k - n - 4) (by omega)
        rw [show n + 4 + (k - n - 4) = k by omega] at this
        rw [e5.2.2.2 k (by omega), e4.2.2.2 k (by omega), e3.2.2.2 k (by omega), this, show (k - n) / 4 = 1 by omega, show (k - n) % 4 = k - n - 4 by omega]
        rfl
      · by_cases q3 : k < n + 12
        · have := e3.2.2.1 (k - n - 8) (by omega)
          rw [show n + 4 + 4 + (k - n - 8) = k by omega] at this
          rw [e5.2.2.2 k (by omega), e4.2.2.2 k (by omega), this, show (k - n) / 4 = 2 by omega, show (k - n) % 4 = k - n - 8 by omega]
          rfl
        · by_cases q4 : k < n + 16
          · have := e4.2.2.1 (k - n - 12) (by omega)
            rw [show n + 4 + 4 + 4 + (k - n - 12) = k by omega] at this
            rw [e5.2.2.2 k (by omega), this, show (k - n) / 4 = 3 by omega, show (k - n) % 4 = k - n - 12 by omega]
            rfl
          · have := e5.2.2.1 (k - n - 16) (by omega)
            rw [show n + 4 + 4 + 4 + 4 + (k - n - 16) = k by omega] at this
            rw [this, show (k - n) / 4 = 4 by omega, show (k - n) % 4 = k - n - 16 by omega]
            rfl
theorem X_feed_no {tp : Nat → Nat} {n : Nat} {h : AH} (F : Fix h) (t : TX tp n h) (hn : ¬ n + 20 ≤ 900) (a b c d e : Int32) : GI 2 m_X_feed [.ref 1, .int a, .int b, .int c, .int d, .int e] h (kI (-5)) (fun h' => h' = h) := by
  have l := t.le
  refine GIo (s_X_feed_0 ?_)
  refine ⟨by rw [kd_1 F]; rfl, ?_⟩
  rw [t.i, kI_add, if_neg (by rw [decide_eq_true_eq, kI_le (by omega) (by omega) (by omega) (by omega)]; omega)]
  exact ⟨rfl, rfl⟩
def ITm (a k : Nat) : Prop := (a = 88 ∧ (k = 0 ∨ k = 5)) ∨ a = 91
theorem M_feed_g {tp : Nat → Nat} {n : Nat} {h : AH} (F : Fix h) (t : TM tp n h) (hn : n + 20 ≤ 900) (a b c d e : Int32) : GI 1 m_M_feed [.ref 88, .int a, .int b, .int c, .int d, .int e] h (kI ((n + 20 : Nat) : Int)) (fun h' => Fr ITm JM h h' ∧ TM (fdF tp n a b c d e) (n + 20) h') := by
  refine GIo (s_M_feed_0 ?_)
  have i0 : ivA (stI h 88 0 (kI 0)) 88 5 = kI n := by rw [iv_stI, if_neg (by omega)]; exact t.i
  refine ⟨by rw [kd_88 F]; rfl, by rw [kd_stI, kd_88 F]; rfl, ?_⟩
  rw [i0, kI_add, if_pos (by rw [decide_eq_true_eq, kI_le (by omega) (by omega) (by omega) (by omega)]; omega)]
  suffices H : ∀ j, j ≤ 20 → ∀ h1, Fr ITm JM h h1 → ivA h1 88 5 = kI ((n + j : Nat) : Int) → (∀ k, k < n + j → ivA h1 91 k = kI (fdF tp n a b c d e k)) → Safe 0 m_M_feed (24, [.ref 88, .int a, .int b, .int c, .int d, .int e, .int (kI j), unV], [], h1) (fun v h' => Eqv v (some (.int (kI ((n + 20 : Nat) : Int)))) ∧ Fr ITm JM h h' ∧ TM (fdF tp n a b c d e) (n + 20) h') by
    refine H 0 (by omega) _ ((Fr_rfl ITm JM h).stI (Or.inl ⟨rfl, Or.inl rfl⟩) _) i0 (fun k hk => ?_)
    rw [iv_stI, if_neg (by omega), t.v k (by omega)]
    unfold fdF
    rw [if_pos (by omega)]
  refine down_ind 20 ?_ ?_
  · intro h1 e1 i1 B1
    have F1 := e1.fix F
    refine s_M_feed_24 ?_
    simp (disch := omega) only [kd_88 F1, ix_lit, inB_lit, decide_true, Bool.true_or, Bool.or_true, true_and, and_true, kI_add, kI_sub, kI_mul, tn_add, Int.toNat_natCast, Int.reduceToNat, kI_le, kI_lt, kI_inj, decide_eq_true_eq, Bool.not_eq_true', decide_eq_false_iff_not, not_true_eq_false, not_false_eq_true, Classical.not_not, Bool.false_eq_true, if_true, if_false, z0, bI_k0, bI_k1, isB_b, isB_0, isB_1, kI_long, kd_stI, ln_stI, rv_stI, Int.cast_ofNat_Int, Int.le_refl, i1]
    refine ⟨rfl, e1, by omega, i1, B1, fun k hk => ?_⟩
    unfold fdF
    split
    · rename_i q; exact t.b k q
    · exact b8_lt _
  · intro j hj ih h1 e1 i1 B1
    have F1 := e1.fix F
    have z : ¬ (20 : Int) ≤ (j : Int) := by omega
    have key : ∀ x : Int32, x = arg5 a b c d e (j / 4) → Safe 0 m_M_feed (77, [.ref 88, .int a, .int b, .int c, .int d, .int e, .int (kI j), unV], [.int x], h1) (fun v h' => Eqv v (some (.int (kI ((n + 20 : Nat) : Int)))) ∧ Fr ITm JM h h' ∧ TM (fdF tp n a b c d e) (n + 20) h') := by
      intro x hx
      refine s_M_feed_77 ?_
      have er : kI j - kI j / kI 4 * kI 4 = kI ((j % 4 : Nat) : Int) := kI_rem (b := 4) (by omega) (by omega) (by omega)
      have es : kI 24 - kI 8 * (kI j - kI j / kI 4 * kI 4) = kI (24 - 8 * ((j % 4 : Nat) : Int)) := by rw [er, kI_mul, kI_sub]
      have ev : (x >>> ((kI 24 - kI 8 * (kI j - kI j / kI 4 * kI 4)) &&& 31)) &&& kI 255 = kI (byF x (j % 4)) := by rw [es, b8_and]; rfl
      have ix' : ix (kI ((n + j : Nat) : Int)) = n + j := ix_kI (by omega)
      have ib' : inB (kI ((n + j : Nat) : Int)) 900 = true := inB_kI (by omega) (by omega)
      have z4 : ¬ kI 4 = 0 := by decide
      simp only [kd_88 F1, rv_88_3 F1, kd_91 F1, ln_91 F1, kd_stI, decide_true, true_and, i1, ix', ib', ev, z4, decide_false, Bool.not_false]
      have e2 : Fr ITm JM h (stI (stI h1 91 (n + j) (kI (byF x (j % 4)))) 88 5 (ivA (stI h1 91 (n + j) (kI (byF x (j % 4)))) 88 5 + kI 1)) := (e1.stI (Or.inr rfl) _).stI (Or.inl ⟨rfl, Or.inr rfl⟩) _
      have := ih _ e2 ?_ (fun k hk => ?_)
      · rw [kI_add]
        exact this
      · rw [iv_stI, if_pos ⟨rfl, rfl⟩, iv_stI, if_neg (by omega), i1, kI_add]
        rfl
      · rw [iv_stI, if_neg (by omega), iv_stI]
        by_cases q : k = n + j
        · rw [if_pos ⟨rfl, q⟩, hx, q]
          unfold fdF
          rw [if_neg (by omega), show n + j - n = j by omega]
        · rw [if_neg (fun w => q w.2)]
          exact B1 k (by omega)
    refine s_M_feed_24 ?_
    simp (disch := omega) only [ix_lit, inB_lit, decide_true, Bool.true_or, Bool.or_true, true_and, and_true, kI_add, kI_sub, kI_mul, tn_add, Int.toNat_natCast, Int.reduceToNat, kI_le, kI_lt, kI_inj, decide_eq_true_eq, Bool.not_eq_true', decide_eq_false_iff_not, not_true_eq_false, not_false_eq_true, Classical.not_not, Bool.false_eq_true, if_true, if_false, z0, bI_k0, bI_k1, isB_b, isB_0, isB_1, kI_long, kd_stI, ln_stI, rv_stI, z]
    unfold arg5 at key
    by_cases c1 : (4 : Int) ≤ (j : Int)
    · rw [if_pos c1]
      by_cases c2 : (8 : Int) ≤ (j : Int)
      · rw [if_pos c2]
        by_cases c3 : (12 : Int) ≤ (j : Int)
        · rw [if_pos c3]
          by_cases c4 : (16 : Int) ≤ (j : Int)
          · rw [if_pos c4]
            exact key _ (by rw [show j / 4 = 4 by omega]; rfl)
          · rw [if_neg c4]
            exact key _ (by rw [show j / 4 = 3 by omega]; rfl)
        · rw [if_neg c3]
          exact key _ (by rw [show j / 4 = 2 by omega]; rfl)
      · rw [if_neg c2]
        exact key _ (by rw [show j / 4 = 1 by omega]; rfl)
    · rw [if_neg c1]
      exact key _ (by rw [show j / 4 = 0 by omega]; rfl)
theorem M_feed_no {tp : Nat → Nat} {n : Nat} {h : AH} (F : Fix h) (t : TM tp n h) (hn : ¬ n + 20 ≤ 900) (a b c d e : Int32) : GI 1 m_M_feed [.ref 88, .int a, .int b, .int c, .int d, .int e] h (kI (-5)) (fun h' => h' = stI h 88 0 (kI 0)) := by
  have l := t.le
  refine GIo (s_M_feed_0 ?_)
  have i0 : ivA (stI h 88 0 (kI 0)) 88 5 = kI n := by rw [iv_stI, if_neg (by omega)]; exact t.i
  refine ⟨by rw [kd_88 F]; rfl, by rw [kd_stI, kd_88 F]; rfl, ?_⟩
  rw [i0, kI_add, if_neg (by rw [decide_eq_true_eq, kI_le (by omega) (by omega) (by omega) (by omega)]; omega)]
  exact ⟨rfl, rfl⟩
/-! fault -/
theorem X_fault_g {h : AH} (F : Fix h) {f g : Int32} (i1 : ivA h 36 11 = f) (i2 : ivA h 36 12 = g) {w : Int} (w1 : -2147483648 ≤ w) (w2 : w ≤ 2147483647) : GI 1 m_X_fault [.ref 1, .int (kI w)] h (if w = 0 then f else if w = 1 then g else kI (-1)) (fun h' => h' = h) := by
  refine GIo (s_X_fault_0 ?_)
  have e : w = 0 ∨ w = 1 ∨ (¬ w = 0 ∧ ¬ w = 1) := by omega
  rcases e with rfl | rfl | ⟨z0', z1'⟩
  · simp (disch := omega) only [kd_1 F, rv_1_7 F, kd_36 F, i1, ix_lit, inB_lit, decide_true, Bool.true_or, Bool.or_true, true_and, and_true, kI_add, kI_sub, kI_mul, tn_add, Int.toNat_natCast, Int.reduceToNat, kI_le, kI_lt, kI_inj, decide_eq_true_eq, Bool.not_eq_true', decide_eq_false_iff_not, not_true_eq_false, not_false_eq_true, Classical.not_not, Bool.false_eq_true, if_true, if_false, z0, bI_k0, bI_k1, isB_b, isB_0, isB_1, kI_long, kd_stI, ln_stI, rv_stI, Int.reduceEq]
    first | exact ⟨rfl, rfl⟩ | exact rfl
  · simp (disch := omega) only [kd_1 F, rv_1_7 F, kd_36 F, i2, ix_lit, inB_lit, decide_true, Bool.true_or, Bool.or_true, true_and, and_true, kI_add, kI_sub, kI_mul, tn_add, Int.toNat_natCast, Int.reduceToNat, kI_le, kI_lt, kI_inj, decide_eq_true_eq, Bool.not_eq_true', decide_eq_false_iff_not, not_true_eq_false, not_false_eq_true, Classical.not_not, Bool.false_eq_true, if_true, if_false, z0, bI_k0, bI_k1, isB_b, isB_0, isB_1, kI_long, kd_stI, ln_stI, rv_stI, Int.reduceEq]
    first | exact ⟨rfl, rfl⟩ | exact rfl
  · simp (disch := omega) only [ix_lit, inB_lit, decide_true, Bool.true_or, Bool.or_true, true_and, and_true, kI_add, kI_sub, kI_mul, tn_add, Int.toNat_natCast, Int.reduceToNat, kI_le, kI_lt, kI_inj, decide_eq_true_eq, Bool.not_eq_true', decide_eq_false_iff_not, not_true_eq_false, not_false_eq_true, Classical.not_not, Bool.false_eq_true, if_true, if_false, z0, bI_k0, bI_k1, isB_b, isB_0, isB_1, kI_long, kd_stI, ln_stI, rv_stI, z0', z1']
    first | exact ⟨rfl, rfl⟩ | exact rfl
theorem M_fault_g {h : AH} (F : Fix h) {f g : Int32} (i1 : ivA h 88 13 = f) (i2 : ivA h 88 14 = g) {w : Int} (w1 : -2147483648 ≤ w) (w2 : w ≤ 2147483647) : GI 1 m_M_fault [.ref 88, .int (kI w)] h (if w = 0 then f else if w = 1 then g else kI (-1)) (fun h' => h' = stI h 88 0 (kI 0)) := by
  have i1' : ivA (stI h 88 0 (kI 0)) 88 13 = f := by rw [iv_stI, if_neg (by omega)]; exact i1
  have i2' : ivA (stI h 88 0 (kI 0)) 88 14 = g := by rw [iv_stI, if_neg (by omega)]; exact i2
  refine GIo (s_M_fault_0 ?_)
  have e : w = 0 ∨ w = 1 ∨ (¬ w = 0 ∧ ¬ w = 1) := by omega
  rcases e with rfl | rfl | ⟨z0', z1'⟩
  · simp (disch := omega) only [kd_88 F, i1', ix_lit, inB_lit, decide_true, Bool.true_or, Bool.or_true, true_and, and_true, kI_add, kI_sub, kI_mul, tn_add, Int.toNat_natCast, Int.reduceToNat, kI_le, kI_lt, kI_inj, decide_eq_true_eq, Bool.not_eq_true', decide_eq_false_iff_not, not_true_eq_false, not_false_eq_true, Classical.not_not, Bool.false_eq_true, if_true, if_false, z0, bI_k0, bI_k1, isB_b, isB_0, isB_1, kI_long, kd_stI, ln_stI, rv_stI, Int.reduceEq]
    first | exact ⟨rfl, rfl⟩ | exact rfl
  · simp (disch := omega) only [kd_88 F, i2', ix_lit, inB_lit, decide_true, Bool.true_or, Bool.or_true, true_and, and_true, kI_add, kI_sub, kI_mul, tn_add, Int.toNat_natCast, Int.reduceToNat, kI_le, kI_lt, kI_inj, decide_eq_true_eq, Bool.not_eq_true', decide_eq_false_iff_not, not_true_eq_false, not_false_eq_true, Classical.not_not, Bool.false_eq_true, if_true, if_false, z0, bI_k0, bI_k1, isB_b, isB_0, isB_1, kI_long, kd_stI, ln_stI, rv_stI, Int.reduceEq]
    first | exact ⟨rfl, rfl⟩ | exact rfl
  · simp (disch := omega) only [kd_88 F, ix_lit, inB_lit, decide_true, Bool.true_or, Bool.or_true, true_and, and_true, kI_add, kI_sub, kI_mul, tn_add, Int.toNat_natCast, Int.reduceToNat, kI_le, kI_lt, kI_inj, decide_eq_true_eq, Bool.not_eq_true', decide_eq_false_iff_not, not_true_eq_false, not_false_eq_true, Classical.not_not, Bool.false_eq_true, if_true, if_false, z0, bI_k0, bI_k1, isB_b, isB_0, isB_1, kI_long, kd_stI, ln_stI, rv_stI, z0', z1']
    first | exact ⟨rfl, rfl⟩ | exact rfl
