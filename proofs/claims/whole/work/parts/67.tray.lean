/-! trays: fills, the class's Tray, the reference's numbers and write -/
def I0 (_ _ : Nat) : Prop := False
theorem Ar_fill_g {a L : Nat} {h : AH} (k : kdA h a = 21) (l : lnA h a = L) (hL : L < 1000000) (x : Int64) : GV 1 m_Ar_fill [.ref a, .long x] h (fun h' => Fr I0 (fun b _ => b = a) h h' ∧ ∀ j, j < L → jvA h' a j = x) := by
  refine GVo (s_Ar_fill_0 ?_)
  simp only [k, l, isA, decide_true, Bool.true_or, Bool.true_and, Bool.and_true, Nat.reduceLeDiff, true_and]
  suffices H : ∀ i, i ≤ L → ∀ h1, Fr I0 (fun b _ => b = a) h h1 → (∀ j, j < i → jvA h1 a j = x) → Safe 0 m_Ar_fill (6, [.ref a, .long x, unV, .int (kI i), .int (kI L)], [], h1) (fun v h' => Eqv v none ∧ Fr I0 (fun b _ => b = a) h h' ∧ ∀ j, j < L → jvA h' a j = x) by
    exact H 0 (by omega) h (Fr_rfl _ _ _) (fun j hj => by omega)
  refine down_ind L ?_ ?_
  · intro h1 e1 H
    refine s_Ar_fill_6 ?_
    simp (disch := omega) only [ix_lit, inB_lit, decide_true, Bool.true_or, Bool.or_true, true_and, and_true, kI_add, kI_sub, kI_mul, tn_add, Int.toNat_natCast, Int.reduceToNat, kI_le, kI_lt, kI_inj, decide_eq_true_eq, Bool.not_eq_true', decide_eq_false_iff_not, not_true_eq_false, not_false_eq_true, Classical.not_not, Bool.false_eq_true, if_true, if_false, z0, bI_k0, bI_k1, isB_b, isB_0, isB_1, kI_long, kd_stI, ln_stI, rv_stI, Int.le_refl]
    exact ⟨rfl, e1, H⟩
  · intro i hi ih h1 e1 H
    have k1 : kdA h1 a = 21 := by rw [e1.1]; exact k
    have l1 : lnA h1 a = L := by rw [e1.2.1]; exact l
    refine s_Ar_fill_6 ?_
    simp (disch := omega) only [k1, l1, ix_lit, inB_lit, decide_true, Bool.true_or, Bool.or_true, true_and, and_true, kI_add, kI_sub, kI_mul, tn_add, Int.toNat_natCast, Int.reduceToNat, kI_le, kI_lt, kI_inj, decide_eq_true_eq, Bool.not_eq_true', decide_eq_false_iff_not, not_true_eq_false, not_false_eq_true, Classical.not_not, Bool.false_eq_true, if_true, if_false, z0, bI_k0, bI_k1, isB_b, isB_0, isB_1, kI_long, kd_stI, ln_stI, rv_stI]
    rw [if_neg (by omega)]
    refine ih (stJ h1 a i x) (e1.stJ rfl _) (fun j hj => ?_)
    rw [jv_stJ]
    by_cases q : j = i
    · rw [if_pos ⟨rfl, q⟩]
    · rw [if_neg (fun w => q w.2)]
      exact H j (by omega)
theorem Ar_fill2_g {a L : Nat} {h : AH} (k : kdA h a = 20) (l : lnA h a = L) (hL : L < 1000000) (x : Int32) : GV 1 m_Ar_fill2 [.ref a, .int x] h (fun h' => Fr (fun b _ => b = a) JM h h' ∧ ∀ j, j < L → ivA h' a j = x) := by
  refine GVo (s_Ar_fill2_0 ?_)
  simp only [k, l, isA, decide_true, Bool.true_or, Bool.true_and, Bool.and_true, Nat.reduceLeDiff, true_and]
  suffices H : ∀ i, i ≤ L → ∀ h1, Fr (fun b _ => b = a) JM h h1 → (∀ j, j < i → ivA h1 a j = x) → Safe 0 m_Ar_fill2 (5, [.ref a, .int x, .int (kI i), .int (kI L)], [], h1) (fun v h' => Eqv v none ∧ Fr (fun b _ => b = a) JM h h' ∧ ∀ j, j < L → ivA h' a j = x) by
    exact H 0 (by omega) h (Fr_rfl _ _ _) (fun j hj => by omega)
  refine down_ind L ?_ ?_
  · intro h1 e1 H
    refine s_Ar_fill2_5 ?_
    simp (disch := omega) only [ix_lit, inB_lit, decide_true, Bool.true_or, Bool.or_true, true_and, and_true, kI_add, kI_sub, kI_mul, tn_add, Int.toNat_natCast, Int.reduceToNat, kI_le, kI_lt, kI_inj, decide_eq_true_eq, Bool.not_eq_true', decide_eq_false_iff_not, not_true_eq_false, not_false_eq_true, Classical.not_not, Bool.false_eq_true, if_true, if_false, z0, bI_k0, bI_k1, isB_b, isB_0, isB_1, kI_long, kd_stI, ln_stI, rv_stI, Int.le_refl]
    exact ⟨rfl, e1, H⟩
  · intro i hi ih h1 e1 H
    have k1 : kdA h1 a = 20 := by rw [e1.1]; exact k
    have l1 : lnA h1 a = L := by rw [e1.2.1]; exact l
    refine s_Ar_fill2_5 ?_
    simp (disch := omega) only [k1, l1, ix_lit, inB_lit, decide_true, Bool.true_or, Bool.or_true, true_and, and_true, kI_add, kI_sub, kI_mul, tn_add, Int.toNat_natCast, Int.reduceToNat, kI_le, kI_lt, kI_inj, decide_eq_true_eq, Bool.not_eq_true', decide_eq_false_iff_not, not_true_eq_false, not_false_eq_true, Classical.not_not, Bool.false_eq_true, if_true, if_false, z0, bI_k0, bI_k1, isB_b, isB_0, isB_1, kI_long, kd_stI, ln_stI, rv_stI]
    rw [if_neg (by omega)]
    refine ih (stI h1 a i x) (e1.stI rfl _) (fun j hj => ?_)
    rw [iv_stI]
    by_cases q : j = i
    · rw [if_pos ⟨rfl, q⟩]
    · rw [if_neg (fun w => q w.2)]
      exact H j (by omega)
theorem tr_fix {h : AH} (F : Fix h) {t : Nat} (ht : t < 4) : rvA h 73 t = 74 + 2 * t ∧ kdA h (74 + 2 * t) = 10 ∧ rvA h (74 + 2 * t) 0 = 75 + 2 * t ∧ kdA h (75 + 2 * t) = 21 ∧ lnA h (75 + 2 * t) = 40 := by
  have e : t = 0 ∨ t = 1 ∨ t = 2 ∨ t = 3 := by omega
  rcases e with rfl | rfl | rfl | rfl
  · exact ⟨rv_73_0 F, kd_74 F, rv_74_0 F, kd_75 F, ln_75 F⟩
  · exact ⟨rv_73_1 F, kd_76 F, rv_76_0 F, kd_77 F, ln_77 F⟩
  · exact ⟨rv_73_2 F, kd_78 F, rv_78_0 F, kd_79 F, ln_79 F⟩
  · exact ⟨rv_73_3 F, kd_80 F, rv_80_0 F, kd_81 F, ln_81 F⟩
/-- the class's tray: its sort (-1: missing), its size, its numbers -/
def XT (t : Nat) (so : Int) (n : Nat) (f : Nat → Int) (h : AH) : Prop := (so = -1 ∧ ivA h (74 + 2 * t) 2 = kI (-1)) ∨ (0 ≤ so ∧ so ≤ 3 ∧ ivA h (74 + 2 * t) 1 = kI so ∧ ivA h (74 + 2 * t) 2 = kI n ∧ ∀ i, i < n → jvA h (75 + 2 * t) i = kJ (f i))
def MT (t : Nat) (so : Int) (n : Nat) (f : Nat → Int) (h : AH) : Prop := ivA h 103 t = kI so ∧ (so ≠ -1 → ivA h 104 t = kI n ∧ ∀ i, i < n → jvA h 105 (40 * t + i) = kJ (f i))
def WFT (so : Int) (n : Nat) (f : Nat → Int) : Prop := -1 ≤ so ∧ so ≤ 3 ∧ n ≤ 40 ∧ ∀ i, -9223372036854775808 ≤ f i ∧ f i ≤ 9223372036854775807
theorem XT.fr {I J : Nat → Nat → Prop} {t : Nat} {so : Int} {n : Nat} {f : Nat → Int} {h h' : AH} (C : XT t so n f h) (e : Fr I J h h') (hi : ∀ k, ¬ I (74 + 2 * t) k) (hj : ∀ k, ¬ J (75 + 2 * t) k) : XT t so n f h' := by
  unfold XT
  simp only [e.2.2.2.2.2.1 _ _ (hi _), e.2.2.2.2.2.2 _ _ (hj _)]
  exact C
theorem MT.fr {I J : Nat → Nat → Prop} {t : Nat} {so : Int} {n : Nat} {f : Nat → Int} {h h' : AH} (C : MT t so n f h) (e : Fr I J h h') (hi : ∀ k, ¬ I 103 k ∧ ¬ I 104 k) (hj : ∀ k, ¬ J 105 k) : MT t so n f h' := by
  unfold MT
  simp only [e.2.2.2.2.2.1 _ _ (hi _).1, e.2.2.2.2.2.1 _ _ (hi _).2, e.2.2.2.2.2.2 _ _ (hj _)]
  exact C
theorem X_isTray_c {d : Nat} (hd : 1 ≤ d) {h : AH} {a : Int} (a1 : -2147483648 ≤ a) (a2 : a ≤ 2147483647) {K : Int32 → AH → Prop} : CallI d m_X_isTray [.int (kI a)] h K ↔ K (bI32 (0 ≤ a ∧ a < 4)) h := by
  refine Ret.I (d := 1) (ret_of (s_X_isTray_0 ?_)) hd
  simp (disch := omega) only [ix_lit, inB_lit, decide_true, Bool.true_or, Bool.or_true, true_and, and_true, kI_add, kI_sub, kI_mul, tn_add, Int.toNat_natCast, Int.reduceToNat, kI_le, kI_lt, kI_inj, decide_eq_true_eq, Bool.not_eq_true', decide_eq_false_iff_not, not_true_eq_false, not_false_eq_true, Classical.not_not, Bool.false_eq_true, if_true, if_false, z0, bI_k0, bI_k1, isB_b, isB_0, isB_1, kI_long, kd_stI, ln_stI, rv_stI]
  unfold bI32
  by_cases q1 : a < 0
  · rw [if_pos q1, if_neg (by omega)]; all_goals simp
  · rw [if_neg q1]
    by_cases q2 : 4 ≤ a
    · rw [if_pos q2, if_neg (by omega)]; all_goals simp
    · rw [if_neg q2, if_pos (by omega)]; all_goals simp
theorem Tr_isMissing_c {t : Nat} (ht : t < 4) {so : Int} {n : Nat} {f : Nat → Int} {d : Nat} {h : AH} (F : Fix h) (W : WFT so n f) (X : XT t so n f h) (hd : 1 ≤ d) {K : Int32 → AH → Prop} : CallI d m_Tr_isMissing [.ref (74 + 2 * t)] h K ↔ K (bI32 (so = -1)) h := by
  refine Ret.I (d := 1) (ret_of (s_Tr_isMissing_0 ?_)) hd
  have w := W.2.2.1
  rcases X with ⟨q, i2⟩ | ⟨q, q2, i1, i2, _⟩
  · simp (disch := omega) only [(tr_fix F ht).2.1, i2, ix_lit, inB_lit, decide_true, Bool.true_or, Bool.or_true, true_and, and_true, kI_add, kI_sub, kI_mul, tn_add, Int.toNat_natCast, Int.reduceToNat, kI_le, kI_lt, kI_inj, decide_eq_true_eq, Bool.not_eq_true', decide_eq_false_iff_not, not_true_eq_false, not_false_eq_true, Classical.not_not, Bool.false_eq_true, if_true, if_false, z0, bI_k0, bI_k1, isB_b, isB_0, isB_1, kI_long, kd_stI, ln_stI, rv_stI]
    rw [q]
    (all_goals first | exact ⟨rfl, rfl⟩ | exact ⟨rfl, trivial⟩ | rfl | trivial)
  · have e : ¬ (n : Int) = -1 := by omega
    simp (disch := omega) only [(tr_fix F ht).2.1, i2, ix_lit, inB_lit, decide_true, Bool.true_or, Bool.or_true, true_and, and_true, kI_add, kI_sub, kI_mul, tn_add, Int.toNat_natCast, Int.reduceToNat, kI_le, kI_lt, kI_inj, decide_eq_true_eq, Bool.not_eq_true', decide_eq_false_iff_not, not_true_eq_false, not_false_eq_true, Classical.not_not, Bool.false_eq_true, if_true, if_false, z0, bI_k0, bI_k1, isB_b, isB_0, isB_1, kI_long, kd_stI, ln_stI, rv_stI, e]
    have e2 : bI32 (so = -1) = kI 0 := by unfold bI32; rw [if_neg (by omega)]
    rw [e2]
    (all_goals first | exact ⟨rfl, rfl⟩ | exact ⟨rfl, trivial⟩ | rfl | trivial)
theorem Tr_lay_g {t : Nat} (ht : t < 4) {h : AH} (F : Fix h) {so n : Nat} (h1 : so ≤ 3) (h2 : n ≤ 40) : GV 2 m_Tr_lay [.ref (74 + 2 * t), .int (kI so), .int (kI n)] h (fun h' => Fr (fun a _ => a = 74 + 2 * t) (fun a _ => a = 75 + 2 * t) h h' ∧ XT t so n (fun _ => 0) h') := by
  have T := tr_fix F ht
  refine GVo (s_Tr_lay_0 ?_)
  simp only [T.2.1, T.2.2.1, decide_true, true_and]
  refine GV.use (Ar_fill_g T.2.2.2.1 T.2.2.2.2 (by omega) (kJ 0)) (by omega) (fun h3 e3 => ?_)
  have k3 : kdA h3 (74 + 2 * t) = 10 := by rw [e3.1.1]; exact T.2.1
  have en : (if kI 0 < (if kI 40 < kI (n : Int) then kI 40 else kI n) then (if kI 40 < kI (n : Int) then kI 40 else kI n) else kI 0) = kI n := by
    have a1 : (if kI 40 < kI (n : Int) then kI 40 else kI n) = kI n := by
      rw [if_neg (by rw [kI_lt (by omega) (by omega) (by omega) (by omega)]; omega)]
    have a2 : (kI 0 < kI (n : Int)) ↔ 0 < (n : Int) := kI_lt (by omega) (by omega) (by omega) (by omega)
    rw [a1]
    by_cases q : 0 < (n : Int)
    · rw [if_pos (a2.mpr q)]
    · rw [if_neg (fun w => q (a2.mp w))]; congr 1; omega
  simp only [k3, kd_stI, decide_true, true_and, en]
  have e4 : Fr (fun a _ => a = 74 + 2 * t) (fun a _ => a = 75 + 2 * t) h3 (stI (stI h3 (74 + 2 * t) 1 (kI so)) (74 + 2 * t) 2 (kI n)) := ((Fr_rfl (fun a _ => a = 74 + 2 * t) (fun a _ => a = 75 + 2 * t) h3).stI rfl _).stI rfl _
  refine ⟨rfl, (e3.1.mono (fun _ _ w => w.elim) (fun _ _ w => w)).trans e4, Or.inr ⟨by omega, by omega, ?_, ?_, fun i hi => ?_⟩⟩
  · rw [iv_stI, if_neg (by omega), iv_stI, if_pos ⟨rfl, rfl⟩]
  · rw [iv_stI, if_pos ⟨rfl, rfl⟩]
  · show jvA h3 (75 + 2 * t) i = _
    exact e3.2 i (by omega)
/-- cut of a number to its sort -/
def cutF (so : Int) (x : Int64) : Int64 := if so = 0 then x.toInt32.toInt8.toInt32.toInt64 else if so = 1 then x.toInt32.toInt16.toInt32.toInt64 else if so = 2 then x.toInt32.toInt64 else x
theorem Tr_put_g {t : Nat} (ht : t < 4) {so : Int} {n : Nat} {f : Nat → Int} {h : AH} (F : Fix h) (W : WFT so n f) (X : XT t so n f h) (hs : so ≠ -1) {i : Nat} (hi : i < n) (x : Int64) : GJ 2 m_Tr_put [.ref (74 + 2 * t), .int (kI i), .long x] h (cutF so x) (fun h' => Fr I0 (fun a _ => a = 75 + 2 * t) h h' ∧ XT t so n (fun j => if j = i then (cutF so x).toInt else f j) h') := by
  have T := tr_fix F ht
  have w := W.2.2.1
  have w1 := W.1
  have w2 := W.2.1
  rcases X with ⟨q, _⟩ | ⟨q, q2, i1, i2, iv⟩
  · exact absurd q hs
  · have ct : ∀ {d : Nat} (_ : 1 ≤ d) {K : Int64 → AH → Prop}, CallJ d m_Tr_cut [.ref (74 + 2 * t), .long x] h K ↔ K (cutF so x) h := by
      intro d hd K
      refine Ret.J (d := 1) (ret_of (s_Tr_cut_0 ?_)) hd
      unfold cutF
      simp (disch := omega) only [T.2.1, i1, decide_true, true_and, decide_eq_true_eq, kI_inj]
      by_cases z0 : so = 0
      · rw [if_pos z0, if_pos z0]; (all_goals first | exact ⟨rfl, rfl⟩ | exact ⟨rfl, trivial⟩ | rfl | trivial)
      · rw [if_neg z0, if_neg z0]
        by_cases z1 : so = 1
        · rw [if_pos z1, if_pos z1]; (all_goals first | exact ⟨rfl, rfl⟩ | exact ⟨rfl, trivial⟩ | rfl | trivial)
        · rw [if_neg z1, if_neg z1]
          by_cases z2 : so = 2
          · rw [if_pos z2, if_pos z2]; (all_goals first | exact ⟨rfl, rfl⟩ | exact ⟨rfl, trivial⟩ | rfl | trivial)
          · rw [if_neg z2, if_neg z2]; (all_goals first | exact ⟨rfl, rfl⟩ | exact ⟨rfl, trivial⟩ | rfl | trivial)
    refine GJo (s_Tr_put_0 ?_)
    simp (disch := omega) only [T.2.1, T.2.2.1, T.2.2.2.1, T.2.2.2.2, i2, ix_lit, inB_lit, decide_true, Bool.true_or, Bool.or_true, true_and, and_true, kI_add, kI_sub, kI_mul, tn_add, Int.toNat_natCast, Int.reduceToNat, kI_le, kI_lt, kI_inj, decide_eq_true_eq, Bool.not_eq_true', decide_eq_false_iff_not, not_true_eq_false, not_false_eq_true, Classical.not_not, Bool.false_eq_true, if_true, if_false, z0, bI_k0, bI_k1, isB_b, isB_0, isB_1, kI_long, kd_stI, ln_stI, rv_stI, ct, kd_stJ, rv_stJ, ln_stJ, jv_stJ]
    rw [if_neg (by omega), if_pos (by omega)]
    refine ⟨rfl, (Fr_rfl I0 (fun a _ => a = 75 + 2 * t) h).stJ rfl _, Or.inr ⟨q, q2, i1, i2, fun j hj => ?_⟩⟩
    rw [jv_stJ]
    show _ = kJ (if j = i then (cutF so x).toInt else f j)
    by_cases z : j = i
    · rw [if_pos ⟨rfl, z⟩, if_pos z]
      exact kJ_of _
    · rw [if_neg (fun w => z w.2), if_neg z]
      exact iv j hj
theorem Tr_at_c {t : Nat} (ht : t < 4) {so : Int} {n : Nat} {f : Nat → Int} {d : Nat} {h : AH} (F : Fix h) (W : WFT so n f) (X : XT t so n f h) (hs : so ≠ -1) (hd : 1 ≤ d) {i : Nat} (hi : i < n) {K : Int64 → AH → Prop} : CallJ d m_Tr_at [.ref (74 + 2 * t), .int (kI i)] h K ↔ K (kJ (f i)) h := by
  refine Ret.J (d := 1) (ret_of (s_Tr_at_0 ?_)) hd
  have T := tr_fix F ht
  have w := W.2.2.1
  rcases X with ⟨q, _⟩ | ⟨q, q2, i1, i2, iv⟩
  · exact absurd q hs
  · simp (disch := omega) only [T.2.1, T.2.2.1, T.2.2.2.1, T.2.2.2.2, i2, ix_lit, inB_lit, decide_true, Bool.true_or, Bool.or_true, true_and, and_true, kI_add, kI_sub, kI_mul, tn_add, Int.toNat_natCast, Int.reduceToNat, kI_le, kI_lt, kI_inj, decide_eq_true_eq, Bool.not_eq_true', decide_eq_false_iff_not, not_true_eq_false, not_false_eq_true, Classical.not_not, Bool.false_eq_true, if_true, if_false, z0, bI_k0, bI_k1, isB_b, isB_0, isB_1, kI_long, kd_stI, ln_stI, rv_stI, iv]
    rw [if_neg (by omega), if_neg (by omega)]
    (all_goals first | exact ⟨rfl, rfl⟩ | exact ⟨rfl, trivial⟩ | rfl | trivial)
theorem M_noTray_c {d : Nat} (hd : 2 ≤ d) {h : AH} (F : Fix h) {a : Int} (a1 : -2147483648 ≤ a) (a2 : a ≤ 2147483647) {so : Nat → Int} (hs : ∀ t, t < 4 → ivA h 103 t = kI (so t) ∧ -1 ≤ so t ∧ so t ≤ 3) {K : Int32 → AH → Prop} : CallI d m_M_noTray [.ref 88, .int (kI a)] h K ↔ K (kI (if 0 ≤ a ∧ a < 4 then (if so a.toNat = -1 then -6 else 0) else -2)) h := by
  refine Ret.I (d := 2) (ret_of (s_M_noTray_0 ?_)) hd
  by_cases q : 0 ≤ a ∧ a < 4
  · rw [if_pos q]
    have w1 : (0 ≤ a ∧ a ≤ 3) = True := eq_true (by omega)
    obtain ⟨t, rfl⟩ := Int.eq_ofNat_of_zero_le q.1
    have ht := hs t (by omega)
    simp (disch := omega) only [kd_88 F, rv_88_28 F, kd_103 F, ln_103 F, M_within_c, w1, ix_lit, inB_lit, decide_true, Bool.true_or, Bool.or_true, true_and, and_true, kI_add, kI_sub, kI_mul, tn_add, Int.toNat_natCast, Int.reduceToNat, kI_le, kI_lt, kI_inj, decide_eq_true_eq, Bool.not_eq_true', decide_eq_false_iff_not, not_true_eq_false, not_false_eq_true, Classical.not_not, Bool.false_eq_true, if_true, if_false, z0, bI_k0, bI_k1, isB_b, isB_0, isB_1, kI_long, kd_stI, ln_stI, rv_stI, ht.1]
    by_cases z : so t = -1
    · rw [if_neg (fun w => w z), if_pos z]
      (all_goals first | exact ⟨rfl, rfl⟩ | exact ⟨rfl, trivial⟩ | rfl | trivial)
    · rw [if_pos z, if_neg z]
      (all_goals first | exact ⟨rfl, rfl⟩ | exact ⟨rfl, trivial⟩ | rfl | trivial)
  · rw [if_neg q]
    have w1 : (0 ≤ a ∧ a ≤ 3) = False := eq_false (by omega)
    simp (disch := omega) only [M_within_c, w1, ix_lit, inB_lit, decide_true, Bool.true_or, Bool.or_true, true_and, and_true, kI_add, kI_sub, kI_mul, tn_add, Int.toNat_natCast, Int.reduceToNat, kI_le, kI_lt, kI_inj, decide_eq_true_eq, Bool.not_eq_true', decide_eq_false_iff_not, not_true_eq_false, not_false_eq_true, Classical.not_not, Bool.false_eq_true, if_true, if_false, z0, bI_k0, bI_k1, isB_b, isB_0, isB_1, kI_long, kd_stI, ln_stI, rv_stI]
    (all_goals first | exact ⟨rfl, rfl⟩ | exact ⟨rfl, trivial⟩ | rfl | trivial)
