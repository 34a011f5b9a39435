/-! covers -/
def uniF (f : Nat → Int) (set : Nat) : Nat → Nat
  | 0 => 0
  | k + 1 => uniF f set k ||| (if set.testBit k = true then (f k).toNat else 0)
def covF (f : Nat → Int) (n tg : Nat) : Nat → Int
  | 0 => -1
  | k + 1 => if uniF f k n = tg ∧ (covF f n tg k = -1 ∨ pop k < pop (covF f n tg k).toNat) then (k : Int) else covF f n tg k
theorem covF_b (f : Nat → Int) (n tg : Nat) : ∀ k, -1 ≤ covF f n tg k ∧ covF f n tg k < k
  | 0 => by show -1 ≤ (-1 : Int) ∧ (-1 : Int) < ((0 : Nat) : Int); omega
  | k + 1 => by
    have := covF_b f n tg k
    unfold covF
    split
    · omega
    · omega
theorem pop_10 {k : Nat} (h : k < 1024) : pop k ≤ 10 := by
  unfold pop
  rw [show (12 : Nat) = 10 + 2 from rfl, cnt_add]
  · exact cnt_le _ _
  · intro j h1 h2
    exact bit_hi (n := 10) h h1
def witB (f : Nat → Int) (top : Nat) (i : Nat) : Bool := decide (0 ≤ f i) && decide (f i ≤ top)
theorem witB_iff {f : Nat → Int} {top i : Nat} : witB f top i = true ↔ 0 ≤ f i ∧ f i ≤ top := by
  unfold witB
  simp
theorem uniF_lt {f : Nat → Int} {n : Nat} (H : ∀ i, i < n → 0 ≤ f i ∧ f i < 4096) (set : Nat) : ∀ k, k ≤ n → uniF f set k < 4096
  | 0, _ => by show 0 < 4096; omega
  | k + 1, hk => by
    have h1 := uniF_lt H set k (by omega)
    have h2 := H k (by omega)
    show uniF f set k ||| (if set.testBit k = true then (f k).toNat else 0) < 2 ^ 12
    refine Nat.or_lt_two_pow (by omega) ?_
    split <;> omega
theorem Tr_isWithin_c {t : Nat} (ht : t < 4) {so : Int} {n : Nat} {f : Nat → Int} {d : Nat} {h : AH} (F : Fix h) (W : WFT so n f) (X : XT t so n f h) (hs : so ≠ -1) (hd : 1 ≤ d) {top : Nat} (hT : top < 5000) {K : Int32 → AH → Prop} : CallI d m_Tr_isWithin [.ref (74 + 2 * t), .int (kI top)] h K ↔ K (bI32 (allB (witB f top) n = true)) h := by
  have Tf := tr_fix F ht
  have n40 := W.2.2.1
  have sz := X.sz hs
  refine Ret.I (d := 1) (ret_of (s_Tr_isWithin_0 ?_)) hd
  have iv : ∀ i, i < n → jvA h (75 + 2 * t) i = kJ (f i) := by
    rcases X with ⟨q, _⟩ | ⟨_, _, _, _, iv⟩
    · exact absurd q hs
    · exact iv
  suffices H : ∀ k, k ≤ n → (∀ i, i < k → witB f top i = true) → Safe 0 m_Tr_isWithin (2, [.ref (74 + 2 * t), .int (kI top), .int (kI k)], [], h) (fun v k => v = some (.int (bI32 (allB (witB f top) n = true))) ∧ k = h) by
    exact H 0 (by omega) (fun i hi => by omega)
  refine down_ind n ?_ ?_
  · intro H
    refine s_Tr_isWithin_2 ?_
    simp (disch := omega) only [Tf.2.1, sz, ix_lit, inB_lit, decide_true, Bool.true_or, Bool.or_true, true_and, and_true, kI_add, kI_sub, kI_mul, tn_add, Int.toNat_natCast, Int.reduceToNat, kI_le, kI_lt, kI_inj, decide_eq_true_eq, Bool.not_eq_true', decide_eq_false_iff_not, not_true_eq_false, not_false_eq_true, Classical.not_not, Bool.false_eq_true, if_true, if_false, z0, bI_k0, bI_k1, isB_b, isB_0, isB_1, kI_long, kd_stI, ln_stI, rv_stI, Int.le_refl, allB_iff.mpr H]
    (all_goals first | exact ⟨rfl, rfl⟩ | exact ⟨rfl, trivial⟩ | rfl | trivial)
  · intro k hk ih H
    have fb := W.2.2.2 k
    have z1 : ¬ (n : Int) ≤ (k : Int) := by omega
    have ik := iv k hk
    refine s_Tr_isWithin_2 ?_
    by_cases b1 : f k < 0
    · simp (disch := omega) only [Tf.2.1, Tf.2.2.1, Tf.2.2.2.1, Tf.2.2.2.2, sz, ix_lit, inB_lit, decide_true, Bool.true_or, Bool.or_true, true_and, and_true, kI_add, kI_sub, kI_mul, tn_add, Int.toNat_natCast, Int.reduceToNat, kI_le, kI_lt, kI_inj, decide_eq_true_eq, Bool.not_eq_true', decide_eq_false_iff_not, not_true_eq_false, not_false_eq_true, Classical.not_not, Bool.false_eq_true, if_true, if_false, z0, bI_k0, bI_k1, isB_b, isB_0, isB_1, kI_long, kd_stI, ln_stI, rv_stI, z1, ik, cmp_lt0, kJ_lt, b1]
      rw [allB_no hk (by unfold witB; simp; omega)]
      (all_goals first | exact ⟨rfl, rfl⟩ | exact ⟨rfl, trivial⟩ | rfl | trivial)
    · by_cases b2 : f k ≤ (top : Int)
      · have := ih (fun i hi => by
          by_cases z : i = k
          · rw [z]; exact witB_iff.mpr ⟨by omega, b2⟩
          · exact H i (by omega))
        simp (disch := omega) only [Tf.2.1, Tf.2.2.1, Tf.2.2.2.1, Tf.2.2.2.2, sz, ix_lit, inB_lit, decide_true, Bool.true_or, Bool.or_true, true_and, and_true, kI_add, kI_sub, kI_mul, tn_add, Int.toNat_natCast, Int.reduceToNat, kI_le, kI_lt, kI_inj, decide_eq_true_eq, Bool.not_eq_true', decide_eq_false_iff_not, not_true_eq_false, not_false_eq_true, Classical.not_not, Bool.false_eq_true, if_true, if_false, z0, bI_k0, bI_k1, isB_b, isB_0, isB_1, kI_long, kd_stI, ln_stI, rv_stI, z1, ik, cmp_lt0, cmp_le0, kJ_lt, kJ_le, b1, b2]
        exact this
      · simp (disch := omega) only [Tf.2.1, Tf.2.2.1, Tf.2.2.2.1, Tf.2.2.2.2, sz, ix_lit, inB_lit, decide_true, Bool.true_or, Bool.or_true, true_and, and_true, kI_add, kI_sub, kI_mul, tn_add, Int.toNat_natCast, Int.reduceToNat, kI_le, kI_lt, kI_inj, decide_eq_true_eq, Bool.not_eq_true', decide_eq_false_iff_not, not_true_eq_false, not_false_eq_true, Classical.not_not, Bool.false_eq_true, if_true, if_false, z0, bI_k0, bI_k1, isB_b, isB_0, isB_1, kI_long, kd_stI, ln_stI, rv_stI, z1, ik, cmp_lt0, cmp_le0, kJ_lt, kJ_le, b1, b2]
        rw [allB_no hk (by unfold witB; simp; omega)]
        (all_goals first | exact ⟨rfl, rfl⟩ | exact ⟨rfl, trivial⟩ | rfl | trivial)
theorem Se_union_c {t : Nat} (ht : t < 4) {so : Int} {n : Nat} {f : Nat → Int} {d : Nat} {h : AH} (F : Fix h) (W : WFT so n f) (X : XT t so n f h) (hs : so ≠ -1) (n10 : n ≤ 10) (H0 : ∀ i, i < n → 0 ≤ f i ∧ f i < 4096) (hd : 2 ≤ d) {set : Nat} (hT : set < 1024) {K : Int32 → AH → Prop} : CallI d m_Se_union [.ref (74 + 2 * t), .int (kI set)] h K ↔ K (kI (uniF f set n)) h := by
  have Tf := tr_fix F ht
  have sz := X.sz hs
  refine Ret.I (d := 2) (ret_of (s_Se_union_0 ?_)) hd
  suffices H : ∀ k, k ≤ n → Safe 1 m_Se_union (4, [.ref (74 + 2 * t), .int (kI set), .int (kI (uniF f set k)), .int (kI k)], [], h) (fun v k => v = some (.int (kI (uniF f set n))) ∧ k = h) by
    exact H 0 (by omega)
  refine down_ind n ?_ ?_
  · refine s_Se_union_4 ?_
    simp (disch := omega) only [Tf.2.1, sz, ix_lit, inB_lit, decide_true, Bool.true_or, Bool.or_true, true_and, and_true, kI_add, kI_sub, kI_mul, tn_add, Int.toNat_natCast, Int.reduceToNat, kI_le, kI_lt, kI_inj, decide_eq_true_eq, Bool.not_eq_true', decide_eq_false_iff_not, not_true_eq_false, not_false_eq_true, Classical.not_not, Bool.false_eq_true, if_true, if_false, z0, bI_k0, bI_k1, isB_b, isB_0, isB_1, kI_long, kd_stI, ln_stI, rv_stI, Int.le_refl]
  · intro k hk ih
    have z1 : ¬ (n : Int) ≤ (k : Int) := by omega
    have fk := H0 k hk
    have e : uniF f set (k + 1) = uniF f set k ||| (if set.testBit k = true then (f k).toNat else 0) := rfl
    rw [e] at ih
    refine s_Se_union_4 ?_
    by_cases z : set.testBit k = true
    · rw [if_pos z] at ih
      have ej : (kJ (f k)).toInt32 = kI ((f k).toNat : Int) := by rw [kJ_int (by omega) (by omega)]; congr 1; omega
      simp (disch := omega) only [Tf.2.1, sz, ix_lit, inB_lit, decide_true, Bool.true_or, Bool.or_true, true_and, and_true, kI_add, kI_sub, kI_mul, tn_add, Int.toNat_natCast, Int.reduceToNat, kI_le, kI_lt, kI_inj, decide_eq_true_eq, Bool.not_eq_true', decide_eq_false_iff_not, not_true_eq_false, not_false_eq_true, Classical.not_not, Bool.false_eq_true, if_true, if_false, z0, bI_k0, bI_k1, isB_b, isB_0, isB_1, kI_long, kd_stI, ln_stI, rv_stI, z1, kI_bit, z, Tr_at_c ht F W X hs, ej, kI_or]
      exact ih
    · have z' : set.testBit k = false := by simpa using z
      rw [if_neg z, Nat.or_zero] at ih
      simp (disch := omega) only [Tf.2.1, sz, ix_lit, inB_lit, decide_true, Bool.true_or, Bool.or_true, true_and, and_true, kI_add, kI_sub, kI_mul, tn_add, Int.toNat_natCast, Int.reduceToNat, kI_le, kI_lt, kI_inj, decide_eq_true_eq, Bool.not_eq_true', decide_eq_false_iff_not, not_true_eq_false, not_false_eq_true, Classical.not_not, Bool.false_eq_true, if_true, if_false, z0, bI_k0, bI_k1, isB_b, isB_0, isB_1, kI_long, kd_stI, ln_stI, rv_stI, z1, kI_bit, z']
      exact ih
theorem Se_fewestCovering_c {t : Nat} (ht : t < 4) {so : Int} {n : Nat} {f : Nat → Int} {d : Nat} {h : AH} (F : Fix h) (W : WFT so n f) (X : XT t so n f h) (hs : so ≠ -1) (n10 : n ≤ 10) (H0 : ∀ i, i < n → 0 ≤ f i ∧ f i < 4096) (hd : 3 ≤ d) {tg : Nat} (hT : tg < 4096) {K : Int32 → AH → Prop} : CallI d m_Se_fewestCovering [.ref 67, .ref (74 + 2 * t), .int (kI tg)] h K ↔ K (kI (covF f n tg (2 ^ n))) h := by
  have Tf := tr_fix F ht
  have sz := X.sz hs
  have p2 : 2 ^ n ≤ 2 ^ 10 := Nat.pow_le_pow_right (by omega) n10
  have p10 : (2 : Nat) ^ 10 = 1024 := rfl
  refine Ret.I (d := 3) (ret_of (s_Se_fewestCovering_0 ?_)) hd
  have p1 : 1 ≤ 2 ^ n := Nat.one_le_two_pow
  have hN : ∃ N, N = 2 ^ n := ⟨_, rfl⟩
  obtain ⟨N, hN⟩ := hN
  rw [← hN] at p1 p2 ⊢
  suffices H : ∀ k, k ≤ N → Safe 2 m_Se_fewestCovering (9, [unV, .ref (74 + 2 * t), .int (kI tg), .int (kI (covF f n tg k)), .int (kI (if covF f n tg k = -1 then 11 else (pop (covF f n tg k).toNat : Int))), .int (kI k)], [], h) (fun v k => v = some (.int (kI (covF f n tg (N)))) ∧ k = h) by
    exact H 0 (by omega)
  refine down_ind (N) ?_ ?_
  · refine s_Se_fewestCovering_9 ?_
    simp (disch := omega) only [Tf.2.1, sz, kI_shl1, ← hN, ix_lit, inB_lit, decide_true, Bool.true_or, Bool.or_true, true_and, and_true, kI_add, kI_sub, kI_mul, tn_add, Int.toNat_natCast, Int.reduceToNat, kI_le, kI_lt, kI_inj, decide_eq_true_eq, Bool.not_eq_true', decide_eq_false_iff_not, not_true_eq_false, not_false_eq_true, Classical.not_not, Bool.false_eq_true, if_true, if_false, z0, bI_k0, bI_k1, isB_b, isB_0, isB_1, kI_long, kd_stI, ln_stI, rv_stI, Int.le_refl]
  · intro k hk ih
    have cb := covF_b f n tg k
    have pk := pop_10 (show k < 1024 by omega)
    have pc := pop_10 (show (covF f n tg k).toNat < 1024 by omega)
    have ul := uniF_lt H0 k n (by omega)
    have z1 : ¬ (N : Int) ≤ (k : Int) := by omega
    have e : covF f n tg (k + 1) = if uniF f k n = tg ∧ (covF f n tg k = -1 ∨ pop k < pop (covF f n tg k).toNat) then (k : Int) else covF f n tg k := rfl
    rw [e] at ih
    have sb : ∃ c : Int, c = (if covF f n tg k = -1 then 11 else (pop (covF f n tg k).toNat : Int)) := ⟨_, rfl⟩
    obtain ⟨c, hc⟩ := sb
    have cb2 : 0 ≤ c ∧ c ≤ 11 := by rw [hc]; split <;> omega
    have lt : ((pop k : Int) < c) ↔ (covF f n tg k = -1 ∨ pop k < pop (covF f n tg k).toNat) := by
      rw [hc]
      by_cases q : covF f n tg k = -1
      · rw [if_pos q]
        constructor
        · intro _; exact Or.inl q
        · intro _; omega
      · rw [if_neg q]
        constructor
        · intro w; exact Or.inr (by omega)
        · intro w
          rcases w with w | w
          · exact absurd w q
          · omega
    rw [← hc]
    refine s_Se_fewestCovering_9 ?_
    by_cases a1 : (pop k : Int) < c
    · have a1' : ¬ c ≤ (pop k : Int) := by omega
      by_cases a2 : uniF f k n = tg
      · rw [if_pos ⟨a2, lt.mp a1⟩, if_neg (by omega), Int.toNat_natCast] at ih
        have a2' : (uniF f k n : Int) = (tg : Int) := by omega
        simp (disch := omega) only [Tf.2.1, sz, kI_shl1, ← hN, ix_lit, inB_lit, decide_true, Bool.true_or, Bool.or_true, true_and, and_true, kI_add, kI_sub, kI_mul, tn_add, Int.toNat_natCast, Int.reduceToNat, kI_le, kI_lt, kI_inj, decide_eq_true_eq, Bool.not_eq_true', decide_eq_false_iff_not, not_true_eq_false, not_false_eq_true, Classical.not_not, Bool.false_eq_true, if_true, if_false, z0, bI_k0, bI_k1, isB_b, isB_0, isB_1, kI_long, kd_stI, ln_stI, rv_stI, z1, In_bitCount_c, a1', Se_union_c ht F W X hs n10 H0, a2']
        exact ih
      · rw [if_neg (fun w => a2 w.1), ← hc] at ih
        have a2' : ¬ (uniF f k n : Int) = (tg : Int) := by omega
        simp (disch := omega) only [Tf.2.1, sz, kI_shl1, ← hN, ix_lit, inB_lit, decide_true, Bool.true_or, Bool.or_true, true_and, and_true, kI_add, kI_sub, kI_mul, tn_add, Int.toNat_natCast, Int.reduceToNat, kI_le, kI_lt, kI_inj, decide_eq_true_eq, Bool.not_eq_true', decide_eq_false_iff_not, not_true_eq_false, not_false_eq_true, Classical.not_not, Bool.false_eq_true, if_true, if_false, z0, bI_k0, bI_k1, isB_b, isB_0, isB_1, kI_long, kd_stI, ln_stI, rv_stI, z1, In_bitCount_c, a1', Se_union_c ht F W X hs n10 H0, a2']
        exact ih
    · have a1' : c ≤ (pop k : Int) := by omega
      rw [if_neg (fun w => a1 (lt.mpr w.2)), ← hc] at ih
      simp (disch := omega) only [Tf.2.1, sz, kI_shl1, ← hN, ix_lit, inB_lit, decide_true, Bool.true_or, Bool.or_true, true_and, and_true, kI_add, kI_sub, kI_mul, tn_add, Int.toNat_natCast, Int.reduceToNat, kI_le, kI_lt, kI_inj, decide_eq_true_eq, Bool.not_eq_true', decide_eq_false_iff_not, not_true_eq_false, not_false_eq_true, Classical.not_not, Bool.false_eq_true, if_true, if_false, z0, bI_k0, bI_k1, isB_b, isB_0, isB_1, kI_long, kd_stI, ln_stI, rv_stI, z1, In_bitCount_c, a1']
      exact ih
def covA (s : ST) (w : TW) (t c wh : Int) : Int := if (0 ≤ t ∧ t < 4) ∧ (0 ≤ c ∧ c < sN s) ∧ (0 ≤ wh ∧ wh ≤ 1) then (if w.1 t.toNat = -1 then -6 else if 1 ≤ w.2.1 t.toNat ∧ w.2.1 t.toNat ≤ 10 then (if allB (witB (w.2.2 t.toNat) (2 ^ sN s - 1)) (w.2.1 t.toNat) = true then (if covF (w.2.2 t.toNat) (w.2.1 t.toNat) (dif (2 ^ sN s - 1) (2 ^ c.toNat)) (2 ^ w.2.1 t.toNat) = -1 ∨ wh = 1 then covF (w.2.2 t.toNat) (w.2.1 t.toNat) (dif (2 ^ sN s - 1) (2 ^ c.toNat)) (2 ^ w.2.1 t.toNat) else (pop (covF (w.2.2 t.toNat) (w.2.1 t.toNat) (dif (2 ^ sN s - 1) (2 ^ c.toNat)) (2 ^ w.2.1 t.toNat)).toNat : Int)) else -3) else -4) else -2
theorem top_lt {s : ST} (w : WFS s) : 2 ^ sN s - 1 < 4096 := by
  have : 2 ^ sN s ≤ 2 ^ 12 := Nat.pow_le_pow_right (by omega) w.n12
  have e : (2 : Nat) ^ 12 = 4096 := rfl
  omega
theorem dec_b0 (p : Prop) [Decidable p] : (decide (bI32 p = 0) = true) ↔ ¬ p := by rw [decide_eq_true_eq]; exact bI_0 p
theorem X_covers_c {T : Nat → Nat} {s : ST} {p : Nat} {y : DY} {v : Int} {hs : List DY} {nx : Nat} {h : AH} (B : BX T s p y v hs nx h) {w : TW} (X : XTs w h) (W : WTs w) {t c wh : Int} (t1 : -2147483648 ≤ t) (t2 : t ≤ 2147483647) (c1 : -2147483648 ≤ c) (c2 : c ≤ 2147483647) (w1 : -2147483648 ≤ wh) (w2 : wh ≤ 2147483647) : GI 4 m_X_covers [.ref 1, .int (kI t), .int (kI c), .int (kI wh)] h (kI (covA s w t c wh)) (fun h' => h' = h) := by
  have F := B.F
  have n2 := B.S.wf.n12
  have tl := top_lt B.S.wf
  refine GIo (s_X_covers_0 ?_)
  generalize hA : covA s w t c wh = A
  unfold covA at hA
  rw [X_isTray_c (by omega) t1 t2]
  by_cases q : 0 ≤ t ∧ t < 4
  · rw [if_neg (fun z => (dec_b0 _).mp z q)]
    refine ⟨by rw [kd_1 F]; rfl, by rw [B.r, B.S.k]; rfl, ?_⟩
    rw [B.r, Sh_hasCell_c B.S (by omega) c1 c2]
    by_cases q2 : 0 ≤ c ∧ c < sN s
    · rw [if_neg (fun z => (dec_b0 _).mp z q2)]
      by_cases q4 : 0 ≤ wh ∧ wh ≤ 1
      · rw [if_pos ⟨q, q2, q4⟩] at hA
        obtain ⟨t, rfl⟩ := Int.eq_ofNat_of_zero_le q.1
        obtain ⟨c, rfl⟩ := Int.eq_ofNat_of_zero_le q2.1
        have ht : t < 4 := by omega
        have Tf := tr_fix F ht
        have Wt := W t ht
        have Xt := X t ht
        have n40 := Wt.2.2.1
        have a1 : ¬ kI wh < 0 := by rw [z0, kI_lt w1 w2 (by omega) (by omega)]; omega
        have a2 : kI wh ≤ kI 1 := by rw [kI_le w1 w2 (by omega) (by omega)]; omega
        rw [if_neg (by rw [decide_eq_true_eq]; exact a1), if_pos (by rw [decide_eq_true_eq]; exact a2)]
        simp only [Int.toNat_natCast] at hA
        by_cases q3 : w.1 t = -1
        · rw [if_pos q3] at hA
          simp (disch := omega) only [kd_1 F, B.r, B.S.k, rv_1_11 F, kd_73 F, ln_73 F, Tf.1, Tf.2.1, ix_lit, inB_lit, decide_true, Bool.true_or, Bool.or_true, true_and, and_true, kI_add, kI_sub, kI_mul, tn_add, Int.toNat_natCast, Int.reduceToNat, kI_le, kI_lt, kI_inj, decide_eq_true_eq, Bool.not_eq_true', decide_eq_false_iff_not, not_true_eq_false, not_false_eq_true, Classical.not_not, Bool.false_eq_true, if_true, if_false, z0, bI_k0, bI_k1, isB_b, isB_0, isB_1, kI_long, kd_stI, ln_stI, rv_stI, Nat.reduceLeDiff, Tr_isMissing_c ht F Wt Xt, q3]
          subst hA; first | exact ⟨rfl, rfl⟩ | exact rfl
        · rw [if_neg q3] at hA
          have sz := Xt.sz q3
          by_cases q5 : 1 ≤ w.2.1 t ∧ w.2.1 t ≤ 10
          · rw [if_pos q5] at hA
            have b1 : ¬ (w.2.1 t : Int) < 1 := by omega
            have b2 : (w.2.1 t : Int) ≤ 10 := by omega
            by_cases q6 : allB (witB (w.2.2 t) (2 ^ sN s - 1)) (w.2.1 t) = true
            · rw [if_pos q6] at hA
              have H0 : ∀ i, i < w.2.1 t → 0 ≤ w.2.2 t i ∧ w.2.2 t i < 4096 := fun i hi => by
                have := witB_iff.mp (allB_iff.mp q6 i hi)
                omega
              have dl : dif (2 ^ sN s - 1) (2 ^ c) < 4096 := dif_lt (n := 12) tl
              have cb := covF_b (w.2.2 t) (w.2.1 t) (dif (2 ^ sN s - 1) (2 ^ c)) (2 ^ w.2.1 t)
              have p10 : 2 ^ w.2.1 t ≤ 2 ^ 10 := Nat.pow_le_pow_right (by omega) q5.2
              have p10' : (2 : Nat) ^ 10 = 1024 := rfl
              have cb' : covF (w.2.2 t) (w.2.1 t) (dif (2 ^ sN s - 1) (2 ^ c)) (2 ^ w.2.1 t) < 1024 := Int.lt_of_lt_of_le cb.2 (by rw [p10'] at p10; exact Int.ofNat_le.mpr p10)
              replace cb := cb.1
              simp (disch := omega) only [kd_1 F, B.r, B.S.k, rv_1_11 F, kd_73 F, ln_73 F, Tf.1, Tf.2.1, ix_lit, inB_lit, decide_true, Bool.true_or, Bool.or_true, true_and, and_true, kI_add, kI_sub, kI_mul, tn_add, Int.toNat_natCast, Int.reduceToNat, kI_le, kI_lt, kI_inj, decide_eq_true_eq, Bool.not_eq_true', decide_eq_false_iff_not, not_true_eq_false, not_false_eq_true, Classical.not_not, Bool.false_eq_true, if_true, if_false, z0, bI_k0, bI_k1, isB_b, isB_0, isB_1, kI_long, kd_stI, ln_stI, rv_stI, Nat.reduceLeDiff, Tr_isMissing_c ht F Wt Xt, q3, sz, b1, b2, B.S.i3, Tr_isWithin_c ht F Wt Xt q3, q6, rv_1_10 F, kd_67 F, kI_shl1, kI_dif, Se_fewestCovering_c ht F Wt Xt q3 q5.2 H0]
              subst hA
              generalize covF (w.2.2 t) (w.2.1 t) (dif (2 ^ sN s - 1) (2 ^ c)) (2 ^ w.2.1 t) = r at cb cb' ⊢
              by_cases r1 : r = -1
              · rw [if_pos r1, if_pos (Or.inl r1)]
                first | exact ⟨rfl, rfl⟩ | exact ⟨rfl, trivial⟩ | exact rfl
              · rw [if_neg r1]
                by_cases r2 : wh = 1
                · rw [if_neg (fun w => w r2), if_pos (Or.inr r2)]
                  first | exact ⟨rfl, rfl⟩ | exact ⟨rfl, trivial⟩ | exact rfl
                · rw [if_pos r2, if_neg (fun w => w.elim r1 r2)]
                  obtain ⟨r, rfl⟩ := Int.eq_ofNat_of_zero_le (show 0 ≤ r by omega)
                  simp (disch := omega) only [In_bitCount_c, Int.toNat_natCast]
                  first | exact ⟨rfl, rfl⟩ | exact ⟨rfl, trivial⟩ | exact rfl
            · rw [if_neg q6] at hA
              simp (disch := omega) only [kd_1 F, B.r, B.S.k, rv_1_11 F, kd_73 F, ln_73 F, Tf.1, Tf.2.1, ix_lit, inB_lit, decide_true, Bool.true_or, Bool.or_true, true_and, and_true, kI_add, kI_sub, kI_mul, tn_add, Int.toNat_natCast, Int.reduceToNat, kI_le, kI_lt, kI_inj, decide_eq_true_eq, Bool.not_eq_true', decide_eq_false_iff_not, not_true_eq_false, not_false_eq_true, Classical.not_not, Bool.false_eq_true, if_true, if_false, z0, bI_k0, bI_k1, isB_b, isB_0, isB_1, kI_long, kd_stI, ln_stI, rv_stI, Nat.reduceLeDiff, Tr_isMissing_c ht F Wt Xt, q3, sz, b1, b2, B.S.i3, Tr_isWithin_c ht F Wt Xt q3, q6]
              subst hA; first | exact ⟨rfl, rfl⟩ | exact rfl
          · rw [if_neg q5] at hA
            by_cases b1 : (w.2.1 t : Int) < 1
            · simp (disch := omega) only [kd_1 F, B.r, B.S.k, rv_1_11 F, kd_73 F, ln_73 F, Tf.1, Tf.2.1, ix_lit, inB_lit, decide_true, Bool.true_or, Bool.or_true, true_and, and_true, kI_add, kI_sub, kI_mul, tn_add, Int.toNat_natCast, Int.reduceToNat, kI_le, kI_lt, kI_inj, decide_eq_true_eq, Bool.not_eq_true', decide_eq_false_iff_not, not_true_eq_false, not_false_eq_true, Classical.not_not, Bool.false_eq_true, if_true, if_false, z0, bI_k0, bI_k1, isB_b, isB_0, isB_1, kI_long, kd_stI, ln_stI, rv_stI, Nat.reduceLeDiff, Tr_isMissing_c ht F Wt Xt, q3, sz, b1]
              subst hA; first | exact ⟨rfl, rfl⟩ | exact rfl
            · have b2 : ¬ (w.2.1 t : Int) ≤ 10 := by omega
              simp (disch := omega) only [kd_1 F, B.r, B.S.k, rv_1_11 F, kd_73 F, ln_73 F, Tf.1, Tf.2.1, ix_lit, inB_lit, decide_true, Bool.true_or, Bool.or_true, true_and, and_true, kI_add, kI_sub, kI_mul, tn_add, Int.toNat_natCast, Int.reduceToNat, kI_le, kI_lt, kI_inj, decide_eq_true_eq, Bool.not_eq_true', decide_eq_false_iff_not, not_true_eq_false, not_false_eq_true, Classical.not_not, Bool.false_eq_true, if_true, if_false, z0, bI_k0, bI_k1, isB_b, isB_0, isB_1, kI_long, kd_stI, ln_stI, rv_stI, Nat.reduceLeDiff, Tr_isMissing_c ht F Wt Xt, q3, sz, b1, b2]
              subst hA; first | exact ⟨rfl, rfl⟩ | exact rfl
      · rw [if_neg (fun w => q4 w.2.2)] at hA
        by_cases a1 : wh < 0
        · simp (disch := omega) only [kd_1 F, B.r, B.S.k, ix_lit, inB_lit, decide_true, Bool.true_or, Bool.or_true, true_and, and_true, kI_add, kI_sub, kI_mul, tn_add, Int.toNat_natCast, Int.reduceToNat, kI_le, kI_lt, kI_inj, decide_eq_true_eq, Bool.not_eq_true', decide_eq_false_iff_not, not_true_eq_false, not_false_eq_true, Classical.not_not, Bool.false_eq_true, if_true, if_false, z0, bI_k0, bI_k1, isB_b, isB_0, isB_1, kI_long, kd_stI, ln_stI, rv_stI, a1]
          subst hA; first | exact ⟨rfl, rfl⟩ | exact rfl
        · have a2 : ¬ wh ≤ 1 := by omega
          simp (disch := omega) only [kd_1 F, B.r, B.S.k, ix_lit, inB_lit, decide_true, Bool.true_or, Bool.or_true, true_and, and_true, kI_add, kI_sub, kI_mul, tn_add, Int.toNat_natCast, Int.reduceToNat, kI_le, kI_lt, kI_inj, decide_eq_true_eq, Bool.not_eq_true', decide_eq_false_iff_not, not_true_eq_false, not_false_eq_true, Classical.not_not, Bool.false_eq_true, if_true, if_false, z0, bI_k0, bI_k1, isB_b, isB_0, isB_1, kI_long, kd_stI, ln_stI, rv_stI, a1, a2]
          subst hA; first | exact ⟨rfl, rfl⟩ | exact rfl
    · rw [if_neg (fun w => q2 w.2.1)] at hA
      rw [if_pos ((dec_b0 _).mpr q2)]
      subst hA; first | exact ⟨rfl, rfl⟩ | exact rfl
  · rw [if_neg (fun w => q w.1)] at hA
    rw [if_pos ((dec_b0 _).mpr q)]
    subst hA; first | exact ⟨rfl, rfl⟩ | exact rfl
theorem M_covers_g {s : ST} {y : DY} {hs : List DY} {h : AH} (B : BM s y hs h) {w : TW} (X : MTs w h) (W : WTs w) {t c wh : Int} (t1 : -2147483648 ≤ t) (t2 : t ≤ 2147483647) (c1 : -2147483648 ≤ c) (c2 : c ≤ 2147483647) (w1 : -2147483648 ≤ wh) (w2 : wh ≤ 2147483647) : GI 4 m_M_covers [.ref 88, .int (kI t), .int (kI c), .int (kI wh)] h (kI (covA s w t c wh)) (fun h' => h' = stI h 88 0 (kI 0)) := by
  have F := B.M.fix
  have e0 := f88 h
  have C := B.M.fr e0
  have F0 := C.fix
  have X0 := X.im e0
  have so := X0.so W
  have n2 := C.wf.n12
  have tl := top_lt C.wf
  refine GIo (s_M_covers_0 ?_)
  generalize hz : stI h 88 0 (kI 0) = h0 at C F0 X0 so ⊢
  unfold covA
  by_cases q : 0 ≤ t ∧ t < 4
  · have p1 : (0 ≤ t ∧ t ≤ 3) = True := eq_true (by omega)
    by_cases q2 : 0 ≤ c ∧ c < sN s
    · have p2 : (0 ≤ c ∧ c < sN s) = True := eq_true q2
      by_cases q4 : 0 ≤ wh ∧ wh ≤ 1
      · have p4 : (0 ≤ wh ∧ wh ≤ 1) = True := eq_true q4
        rw [if_pos ⟨q, q2, q4⟩]
        have p1' : (0 ≤ t ∧ t < 4) = True := eq_true q
        obtain ⟨t, rfl⟩ := Int.eq_ofNat_of_zero_le q.1
        obtain ⟨c, rfl⟩ := Int.eq_ofNat_of_zero_le q2.1
        have ht : t < 4 := by omega
        have Wt := W t ht
        have Xt := X0 t ht
        have n40 := Wt.2.2.1
        simp only [Int.toNat_natCast]
        by_cases q3 : w.1 t = -1
        · rw [if_pos q3]
          simp (disch := omega) only [kd_88 F, kd_88 F0, M_within_c, p1, p4, ix_lit, inB_lit, decide_true, Bool.true_or, Bool.or_true, true_and, and_true, kI_add, kI_sub, kI_mul, tn_add, Int.toNat_natCast, Int.reduceToNat, kI_le, kI_lt, kI_inj, decide_eq_true_eq, Bool.not_eq_true', decide_eq_false_iff_not, not_true_eq_false, not_false_eq_true, Classical.not_not, Bool.false_eq_true, if_true, if_false, z0, bI_k0, bI_k1, isB_b, isB_0, isB_1, kI_long, kd_stI, ln_stI, rv_stI, M_isCell_c C, p2, M_noTray_c (a := (t : Int)) (show 2 ≤ 3 by omega) F0 (by omega) (by omega) so, p1', q3, Int.reduceEq]
          first | exact ⟨rfl, rfl⟩ | exact rfl
        · rw [if_neg q3]
          have xn := Xt.n q3
          by_cases q5 : 1 ≤ w.2.1 t ∧ w.2.1 t ≤ 10
          · rw [if_pos q5]
            have p5 : (1 ≤ (w.2.1 t : Int) ∧ (w.2.1 t : Int) ≤ 10) = True := eq_true (by omega)
            simp (disch := omega) only [kd_88 F, kd_88 F0, rv_88_29 F0, kd_104 F0, ln_104 F0, M_within_c, p1, p4, ix_lit, inB_lit, decide_true, Bool.true_or, Bool.or_true, true_and, and_true, kI_add, kI_sub, kI_mul, tn_add, Int.toNat_natCast, Int.reduceToNat, kI_le, kI_lt, kI_inj, decide_eq_true_eq, Bool.not_eq_true', decide_eq_false_iff_not, not_true_eq_false, not_false_eq_true, Classical.not_not, Bool.false_eq_true, if_true, if_false, z0, bI_k0, bI_k1, isB_b, isB_0, isB_1, kI_long, kd_stI, ln_stI, rv_stI, M_isCell_c C, p2, M_noTray_c (a := (t : Int)) (show 2 ≤ 3 by omega) F0 (by omega) (by omega) so, p1', q3, xn, p5]
            have p10 : 2 ^ w.2.1 t ≤ 2 ^ 10 := Nat.pow_le_pow_right (by omega) q5.2
            have p10' : (2 : Nat) ^ 10 = 1024 := rfl
            have p11 : 1 ≤ 2 ^ w.2.1 t := Nat.one_le_two_pow
            have hN : ∃ N, N = 2 ^ w.2.1 t := ⟨_, rfl⟩
            obtain ⟨N, hN⟩ := hN
            rw [← hN] at p10 p11 ⊢
            suffices H : ∀ k, k ≤ w.2.1 t → (∀ i, i < k → witB (w.2.2 t) (2 ^ sN s - 1) i = true) → Safe 3 m_M_covers (77, [.ref 88, .int (kI t), .int (kI c), .int (kI wh), unV, .int (kI k), unV, unV, unV], [], h0) (fun x h' => Eqv x (some (.int (kI (if allB (witB (w.2.2 t) (2 ^ sN s - 1)) (w.2.1 t) = true then (if covF (w.2.2 t) (w.2.1 t) (dif (2 ^ sN s - 1) (2 ^ c)) (N) = -1 ∨ wh = 1 then covF (w.2.2 t) (w.2.1 t) (dif (2 ^ sN s - 1) (2 ^ c)) (N) else (pop (covF (w.2.2 t) (w.2.1 t) (dif (2 ^ sN s - 1) (2 ^ c)) (N)).toNat : Int)) else -3)))) ∧ h' = h0) by
              exact H 0 (by omega) (fun i hi => by omega)
            refine down_ind (w.2.1 t) ?_ ?_
            · intro HA
              rw [if_pos (allB_iff.mpr HA)]
              have H0 : ∀ i, i < w.2.1 t → 0 ≤ w.2.2 t i ∧ w.2.2 t i < 4096 := fun i hi => by
                have := witB_iff.mp (HA i hi)
                omega
              refine s_M_covers_77 ?_
              simp (disch := omega) only [kd_88 F0, rv_88_29 F0, kd_104 F0, ln_104 F0, xn, ix_lit, inB_lit, decide_true, Bool.true_or, Bool.or_true, true_and, and_true, kI_add, kI_sub, kI_mul, tn_add, Int.toNat_natCast, Int.reduceToNat, kI_le, kI_lt, kI_inj, decide_eq_true_eq, Bool.not_eq_true', decide_eq_false_iff_not, not_true_eq_false, not_false_eq_true, Classical.not_not, Bool.false_eq_true, if_true, if_false, z0, bI_k0, bI_k1, isB_b, isB_0, isB_1, kI_long, kd_stI, ln_stI, rv_stI, Int.le_refl]
              have dl : dif (2 ^ sN s - 1) (2 ^ c) < 4096 := dif_lt (n := 12) tl
              suffices H2 : ∀ k, k ≤ N → Safe 3 m_M_covers (127, [.ref 88, .int (kI t), .int (kI c), .int (kI wh), unV, .int (kI (covF (w.2.2 t) (w.2.1 t) (dif (2 ^ sN s - 1) (2 ^ c)) k)), .int (kI k), unV, unV], [], h0) (fun x h' => Eqv x (some (.int (kI (if covF (w.2.2 t) (w.2.1 t) (dif (2 ^ sN s - 1) (2 ^ c)) (N) = -1 ∨ wh = 1 then covF (w.2.2 t) (w.2.1 t) (dif (2 ^ sN s - 1) (2 ^ c)) (N) else (pop (covF (w.2.2 t) (w.2.1 t) (dif (2 ^ sN s - 1) (2 ^ c)) (N)).toNat : Int))))) ∧ h' = h0) by
                exact H2 0 (by omega)
              refine down_ind (N) ?_ ?_
              · have cb := covF_b (w.2.2 t) (w.2.1 t) (dif (2 ^ sN s - 1) (2 ^ c)) (N)
                refine s_M_covers_127 ?_
                simp (disch := omega) only [kd_88 F0, rv_88_29 F0, kd_104 F0, ln_104 F0, xn, kI_shl1, ← hN, ix_lit, inB_lit, decide_true, Bool.true_or, Bool.or_true, true_and, and_true, kI_add, kI_sub, kI_mul, tn_add, Int.toNat_natCast, Int.reduceToNat, kI_le, kI_lt, kI_inj, decide_eq_true_eq, Bool.not_eq_true', decide_eq_false_iff_not, not_true_eq_false, not_false_eq_true, Classical.not_not, Bool.false_eq_true, if_true, if_false, z0, bI_k0, bI_k1, isB_b, isB_0, isB_1, kI_long, kd_stI, ln_stI, rv_stI, Int.le_refl]
                generalize covF (w.2.2 t) (w.2.1 t) (dif (2 ^ sN s - 1) (2 ^ c)) (N) = r at cb ⊢
                by_cases r1 : r = -1
                · rw [if_pos r1, if_pos (Or.inl r1)]
                  first | exact ⟨rfl, rfl⟩ | exact ⟨rfl, trivial⟩ | exact rfl
                · rw [if_neg r1]
                  by_cases r2 : wh = 1
                  · rw [if_neg (fun w => w r2), if_pos (Or.inr r2)]
                    first | exact ⟨rfl, rfl⟩ | exact ⟨rfl, trivial⟩ | exact rfl
                  · rw [if_pos r2, if_neg (fun w => w.elim r1 r2)]
                    obtain ⟨r, rfl⟩ := Int.eq_ofNat_of_zero_le (show 0 ≤ r by omega)
                    simp (disch := omega) only [M_bits_c, Int.toNat_natCast]
                    first | exact ⟨rfl, rfl⟩ | exact ⟨rfl, trivial⟩ | exact rfl
              · intro k hk ih
                have cb := covF_b (w.2.2 t) (w.2.1 t) (dif (2 ^ sN s - 1) (2 ^ c)) k
                have z1 : ¬ (N : Int) ≤ (k : Int) := by omega
                have e : covF (w.2.2 t) (w.2.1 t) (dif (2 ^ sN s - 1) (2 ^ c)) (k + 1) = if uniF (w.2.2 t) k (w.2.1 t) = dif (2 ^ sN s - 1) (2 ^ c) ∧ (covF (w.2.2 t) (w.2.1 t) (dif (2 ^ sN s - 1) (2 ^ c)) k = -1 ∨ pop k < pop (covF (w.2.2 t) (w.2.1 t) (dif (2 ^ sN s - 1) (2 ^ c)) k).toNat) then (k : Int) else covF (w.2.2 t) (w.2.1 t) (dif (2 ^ sN s - 1) (2 ^ c)) k := rfl
                rw [e] at ih
                refine s_M_covers_127 ?_
                simp (disch := omega) only [kd_88 F0, rv_88_29 F0, kd_104 F0, ln_104 F0, xn, kI_shl1, ← hN, ix_lit, inB_lit, decide_true, Bool.true_or, Bool.or_true, true_and, and_true, kI_add, kI_sub, kI_mul, tn_add, Int.toNat_natCast, Int.reduceToNat, kI_le, kI_lt, kI_inj, decide_eq_true_eq, Bool.not_eq_true', decide_eq_false_iff_not, not_true_eq_false, not_false_eq_true, Classical.not_not, Bool.false_eq_true, if_true, if_false, z0, bI_k0, bI_k1, isB_b, isB_0, isB_1, kI_long, kd_stI, ln_stI, rv_stI, z1]
                generalize covF (w.2.2 t) (w.2.1 t) (dif (2 ^ sN s - 1) (2 ^ c)) k = r at cb ih ⊢
                suffices H3 : ∀ j, j ≤ w.2.1 t → Safe 3 m_M_covers (146, [.ref 88, .int (kI t), .int (kI c), .int (kI wh), unV, .int (kI r), .int (kI k), .int (kI (uniF (w.2.2 t) k j)), .int (kI j)], [], h0) (fun x h' => Eqv x (some (.int (kI (if covF (w.2.2 t) (w.2.1 t) (dif (2 ^ sN s - 1) (2 ^ c)) (N) = -1 ∨ wh = 1 then covF (w.2.2 t) (w.2.1 t) (dif (2 ^ sN s - 1) (2 ^ c)) (N) else (pop (covF (w.2.2 t) (w.2.1 t) (dif (2 ^ sN s - 1) (2 ^ c)) (N)).toNat : Int))))) ∧ h' = h0) by
                  exact H3 0 (by omega)
                refine down_ind (w.2.1 t) ?_ ?_
                · have ul := uniF_lt H0 k (w.2.1 t) (by omega)
                  refine s_M_covers_146 ?_
                  have pc := pop_le r.toNat
                  have pk := pop_le k
                  have f230 : ∀ {Q}, Safe 3 m_M_covers (127, [.ref 88, .int (kI t), .int (kI c), .int (kI wh), unV, .int (kI k), .int (kI ((k + 1 : Nat) : Int)), unV, unV], [], h0) Q → Safe 3 m_M_covers (230, [.ref 88, .int (kI t), .int (kI c), .int (kI wh), unV, unV, .int (kI k), unV, unV], [], h0) Q := fun {Q} H => by
                    refine s_M_covers_230 ?_
                    rw [kI_add]
                    exact H
                  by_cases a2 : uniF (w.2.2 t) k (w.2.1 t) = dif (2 ^ sN s - 1) (2 ^ c)
                  · have a2' : (uniF (w.2.2 t) k (w.2.1 t) : Int) = (dif (2 ^ sN s - 1) (2 ^ c) : Nat) := by omega
                    simp (disch := omega) only [kd_88 F0, rv_88_29 F0, kd_104 F0, ln_104 F0, xn, ix_lit, inB_lit, decide_true, Bool.true_or, Bool.or_true, true_and, and_true, kI_add, kI_sub, kI_mul, tn_add, Int.toNat_natCast, Int.reduceToNat, kI_le, kI_lt, kI_inj, decide_eq_true_eq, Bool.not_eq_true', decide_eq_false_iff_not, not_true_eq_false, not_false_eq_true, Classical.not_not, Bool.false_eq_true, if_true, if_false, z0, bI_k0, bI_k1, isB_b, isB_0, isB_1, kI_long, kd_stI, ln_stI, rv_stI, Int.le_refl, M_everyCell_c C, kI_shl1, kI_dif, a2']
                    by_cases r1 : r = -1
                    · rw [if_pos ⟨a2, Or.inl r1⟩] at ih
                      rw [if_pos r1]
                      exact f230 ih
                    · rw [if_neg r1]
                      obtain ⟨r, rfl⟩ := Int.eq_ofNat_of_zero_le (show 0 ≤ r by omega)
                      have pr := pop_le r
                      simp (disch := omega) only [M_bits_c, ix_lit, inB_lit, decide_true, Bool.true_or, Bool.or_true, true_and, and_true, kI_add, kI_sub, kI_mul, tn_add, Int.toNat_natCast, Int.reduceToNat, kI_le, kI_lt, kI_inj, decide_eq_true_eq, Bool.not_eq_true', decide_eq_false_iff_not, not_true_eq_false, not_false_eq_true, Classical.not_not, Bool.false_eq_true, if_true, if_false, z0, bI_k0, bI_k1, isB_b, isB_0, isB_1, kI_long, kd_stI, ln_stI, rv_stI]
                      simp only [Int.toNat_natCast] at ih
                      by_cases r2 : pop k < pop r
                      · rw [if_pos ⟨a2, Or.inr r2⟩] at ih
                        rw [if_neg (show ¬ (pop r : Int) ≤ (pop k : Int) by omega)]
                        exact f230 ih
                      · rw [if_neg (fun w => w.2.elim r1 r2)] at ih
                        rw [if_pos (show (pop r : Int) ≤ (pop k : Int) by omega)]
                        exact ih
                  · have a2' : ¬ (uniF (w.2.2 t) k (w.2.1 t) : Int) = (dif (2 ^ sN s - 1) (2 ^ c) : Nat) := by omega
                    rw [if_neg (fun w => a2 w.1)] at ih
                    simp (disch := omega) only [kd_88 F0, rv_88_29 F0, kd_104 F0, ln_104 F0, xn, ix_lit, inB_lit, decide_true, Bool.true_or, Bool.or_true, true_and, and_true, kI_add, kI_sub, kI_mul, tn_add, Int.toNat_natCast, Int.reduceToNat, kI_le, kI_lt, kI_inj, decide_eq_true_eq, Bool.not_eq_true', decide_eq_false_iff_not, not_true_eq_false, not_false_eq_true, Classical.not_not, Bool.false_eq_true, if_true, if_false, z0, bI_k0, bI_k1, isB_b, isB_0, isB_1, kI_long, kd_stI, ln_stI, rv_stI, Int.le_refl, M_everyCell_c C, kI_shl1, kI_dif, a2']
                    exact ih
                · intro j hj ih2
                  have z2 : ¬ (w.2.1 t : Int) ≤ (j : Int) := by omega
                  have fj := H0 j hj
                  have ej : (kJ (w.2.2 t j)).toInt32 = kI ((w.2.2 t j).toNat : Int) := by rw [kJ_int (by omega) (by omega)]; congr 1; omega
                  have ei2 : ix (kI (40 * (t : Int) + j)) = 40 * t + j := by rw [ix_lit (by omega) (by omega)]; omega
                  have eb2 : inB (kI (40 * (t : Int) + j)) 160 = true := inB_lit (by omega) (by omega) (by omega)
                  have xf := Xt.f q3 hj
                  have e2 : uniF (w.2.2 t) k (j + 1) = uniF (w.2.2 t) k j ||| (if k.testBit j = true then (w.2.2 t j).toNat else 0) := rfl
                  rw [e2] at ih2
                  refine s_M_covers_146 ?_
                  by_cases z : k.testBit j = true
                  · rw [if_pos z] at ih2
                    simp (disch := omega) only [kd_88 F0, rv_88_29 F0, kd_104 F0, ln_104 F0, rv_88_30 F0, kd_105 F0, ln_105 F0, xn, ix_lit, inB_lit, decide_true, Bool.true_or, Bool.or_true, true_and, and_true, kI_add, kI_sub, kI_mul, tn_add, Int.toNat_natCast, Int.reduceToNat, kI_le, kI_lt, kI_inj, decide_eq_true_eq, Bool.not_eq_true', decide_eq_false_iff_not, not_true_eq_false, not_false_eq_true, Classical.not_not, Bool.false_eq_true, if_true, if_false, z0, bI_k0, bI_k1, isB_b, isB_0, isB_1, kI_long, kd_stI, ln_stI, rv_stI, z2, M_isIn_c, z, ei2, eb2, xf, ej]
                    refine s_M_covers_187 ?_
                    rw [kI_or, kI_add]
                    exact ih2
                  · have z' : k.testBit j = false := by simpa using z
                    rw [if_neg z] at ih2
                    simp (disch := omega) only [kd_88 F0, rv_88_29 F0, kd_104 F0, ln_104 F0, xn, ix_lit, inB_lit, decide_true, Bool.true_or, Bool.or_true, true_and, and_true, kI_add, kI_sub, kI_mul, tn_add, Int.toNat_natCast, Int.reduceToNat, kI_le, kI_lt, kI_inj, decide_eq_true_eq, Bool.not_eq_true', decide_eq_false_iff_not, not_true_eq_false, not_false_eq_true, Classical.not_not, Bool.false_eq_true, if_true, if_false, z0, bI_k0, bI_k1, isB_b, isB_0, isB_1, kI_long, kd_stI, ln_stI, rv_stI, z2, M_isIn_c, z']
                    refine s_M_covers_187 ?_
                    rw [show kI 0 = kI ((0 : Nat) : Int) from rfl, kI_or, kI_add]
                    exact ih2
            · intro k hk ih HA
              have z1 : ¬ (w.2.1 t : Int) ≤ (k : Int) := by omega
              have fb := Wt.2.2.2 k
              have ei2 : ix (kI (40 * (t : Int) + k)) = 40 * t + k := by rw [ix_lit (by omega) (by omega)]; omega
              have eb2 : inB (kI (40 * (t : Int) + k)) 160 = true := inB_lit (by omega) (by omega) (by omega)
              have xf := Xt.f q3 hk
              refine s_M_covers_77 ?_
              by_cases b : 0 ≤ w.2.2 t k ∧ w.2.2 t k ≤ ((2 ^ sN s - 1 : Nat) : Int)
              · have := ih (fun i hi => by
                  by_cases z : i = k
                  · rw [z]; exact witB_iff.mpr b
                  · exact HA i (by omega))
                simp (disch := omega) only [kd_88 F0, rv_88_29 F0, kd_104 F0, ln_104 F0, rv_88_30 F0, kd_105 F0, ln_105 F0, xn, ix_lit, inB_lit, decide_true, Bool.true_or, Bool.or_true, true_and, and_true, kI_add, kI_sub, kI_mul, tn_add, Int.toNat_natCast, Int.reduceToNat, kI_le, kI_lt, kI_inj, decide_eq_true_eq, Bool.not_eq_true', decide_eq_false_iff_not, not_true_eq_false, not_false_eq_true, Classical.not_not, Bool.false_eq_true, if_true, if_false, z0, bI_k0, bI_k1, isB_b, isB_0, isB_1, kI_long, kd_stI, ln_stI, rv_stI, z1, ei2, eb2, xf, M_everyCell_c C, M_within_c, eq_true b]
                exact this
              · have no : witB (w.2.2 t) (2 ^ sN s - 1) k = false := by
                  cases zz : witB (w.2.2 t) (2 ^ sN s - 1) k
                  · rfl
                  · exact absurd (witB_iff.mp zz) b
                rw [allB_no hk no]
                simp (disch := omega) only [kd_88 F0, rv_88_29 F0, kd_104 F0, ln_104 F0, rv_88_30 F0, kd_105 F0, ln_105 F0, xn, ix_lit, inB_lit, decide_true, Bool.true_or, Bool.or_true, true_and, and_true, kI_add, kI_sub, kI_mul, tn_add, Int.toNat_natCast, Int.reduceToNat, kI_le, kI_lt, kI_inj, decide_eq_true_eq, Bool.not_eq_true', decide_eq_false_iff_not, not_true_eq_false, not_false_eq_true, Classical.not_not, Bool.false_eq_true, if_true, if_false, z0, bI_k0, bI_k1, isB_b, isB_0, isB_1, kI_long, kd_stI, ln_stI, rv_stI, z1, ei2, eb2, xf, M_everyCell_c C, M_within_c, eq_false b]
                first | exact ⟨rfl, rfl⟩ | exact rfl
          · rw [if_neg q5]
            have p5 : (1 ≤ (w.2.1 t : Int) ∧ (w.2.1 t : Int) ≤ 10) = False := eq_false (by omega)
            simp (disch := omega) only [kd_88 F, kd_88 F0, rv_88_29 F0, kd_104 F0, ln_104 F0, M_within_c, p1, p4, ix_lit, inB_lit, decide_true, Bool.true_or, Bool.or_true, true_and, and_true, kI_add, kI_sub, kI_mul, tn_add, Int.toNat_natCast, Int.reduceToNat, kI_le, kI_lt, kI_inj, decide_eq_true_eq, Bool.not_eq_true', decide_eq_false_iff_not, not_true_eq_false, not_false_eq_true, Classical.not_not, Bool.false_eq_true, if_true, if_false, z0, bI_k0, bI_k1, isB_b, isB_0, isB_1, kI_long, kd_stI, ln_stI, rv_stI, M_isCell_c C, p2, M_noTray_c (a := (t : Int)) (show 2 ≤ 3 by omega) F0 (by omega) (by omega) so, p1', q3, xn, p5]
            first | exact ⟨rfl, rfl⟩ | exact rfl
      · rw [if_neg (fun w => q4 w.2.2)]
        simp (disch := omega) only [kd_88 F, kd_88 F0, M_within_c, p1, ix_lit, inB_lit, decide_true, Bool.true_or, Bool.or_true, true_and, and_true, kI_add, kI_sub, kI_mul, tn_add, Int.toNat_natCast, Int.reduceToNat, kI_le, kI_lt, kI_inj, decide_eq_true_eq, Bool.not_eq_true', decide_eq_false_iff_not, not_true_eq_false, not_false_eq_true, Classical.not_not, Bool.false_eq_true, if_true, if_false, z0, bI_k0, bI_k1, isB_b, isB_0, isB_1, kI_long, kd_stI, ln_stI, rv_stI, M_isCell_c C, p2, eq_false q4]
        first | exact ⟨rfl, rfl⟩ | exact rfl
    · rw [if_neg (fun w => q2 w.2.1)]
      simp (disch := omega) only [kd_88 F, kd_88 F0, M_within_c, p1, ix_lit, inB_lit, decide_true, Bool.true_or, Bool.or_true, true_and, and_true, kI_add, kI_sub, kI_mul, tn_add, Int.toNat_natCast, Int.reduceToNat, kI_le, kI_lt, kI_inj, decide_eq_true_eq, Bool.not_eq_true', decide_eq_false_iff_not, not_true_eq_false, not_false_eq_true, Classical.not_not, Bool.false_eq_true, if_true, if_false, z0, bI_k0, bI_k1, isB_b, isB_0, isB_1, kI_long, kd_stI, ln_stI, rv_stI, M_isCell_c C, eq_false q2]
      first | exact ⟨rfl, rfl⟩ | exact rfl
  · rw [if_neg (fun w => q w.1)]
    have p1 : (0 ≤ t ∧ t ≤ 3) = False := eq_false (by omega)
    simp (disch := omega) only [kd_88 F, M_within_c, p1, ix_lit, inB_lit, decide_true, Bool.true_or, Bool.or_true, true_and, and_true, kI_add, kI_sub, kI_mul, tn_add, Int.toNat_natCast, Int.reduceToNat, kI_le, kI_lt, kI_inj, decide_eq_true_eq, Bool.not_eq_true', decide_eq_false_iff_not, not_true_eq_false, not_false_eq_true, Classical.not_not, Bool.false_eq_true, if_true, if_false, z0, bI_k0, bI_k1, isB_b, isB_0, isB_1, kI_long, kd_stI, ln_stI, rv_stI]
    first | exact ⟨rfl, rfl⟩ | exact rfl
