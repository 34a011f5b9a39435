/-! changes, on both sides -/
theorem X_isPart_c {d : Nat} (hd : 1 ≤ d) {h : AH} {a m : Int} (a1 : -2147483648 ≤ a) (a2 : a ≤ 2147483647) (m1 : 0 ≤ m) (m2 : m ≤ 9) {K : Int32 → AH → Prop} : CallI d m_X_isPart [.int (kI a), .int (kI m)] h K ↔ K (bI32 ((0 ≤ a ∧ a ≤ m) ∨ (10 ≤ a ∧ a ≤ 21))) h := by
  refine Ret.I (d := 1) (ret_of (s_X_isPart_0 ?_)) hd
  have fin : ¬ (0 ≤ a ∧ a ≤ m) → Safe 0 m_X_isPart (9, [.int (kI a), unV], [], h) (fun v k => v = some (.int (bI32 ((0 ≤ a ∧ a ≤ m) ∨ (10 ≤ a ∧ a ≤ 21)))) ∧ k = h) := by
    intro no
    refine s_X_isPart_9 ?_
    unfold bI32
    simp (disch := omega) only [ix_lit, inB_lit, decide_true, Bool.true_or, Bool.or_true, true_and, and_true, kI_add, kI_sub, kI_mul, tn_add, Int.toNat_natCast, Int.reduceToNat, kI_le, kI_lt, kI_inj, decide_eq_true_eq, Bool.not_eq_true', decide_eq_false_iff_not, not_true_eq_false, not_false_eq_true, Classical.not_not, Bool.false_eq_true, if_true, if_false, z0, bI_k0, bI_k1, isB_b, isB_0, isB_1, kI_long, kd_stI, ln_stI, rv_stI]
    by_cases q1 : a < 10
    · rw [if_pos q1, if_neg (by omega)]
      (all_goals first | exact ⟨rfl, rfl⟩ | exact ⟨rfl, trivial⟩ | rfl | trivial)
    · rw [if_neg q1]
      by_cases q2 : 22 ≤ a
      · rw [if_pos q2, if_neg (by omega)]
        (all_goals first | exact ⟨rfl, rfl⟩ | exact ⟨rfl, trivial⟩ | rfl | trivial)
      · rw [if_neg q2, if_pos (Or.inr (by omega))]
        (all_goals first | exact ⟨rfl, rfl⟩ | exact ⟨rfl, trivial⟩ | rfl | trivial)
  simp (disch := omega) only [ix_lit, inB_lit, decide_true, Bool.true_or, Bool.or_true, true_and, and_true, kI_add, kI_sub, kI_mul, tn_add, Int.toNat_natCast, Int.reduceToNat, kI_le, kI_lt, kI_inj, decide_eq_true_eq, Bool.not_eq_true', decide_eq_false_iff_not, not_true_eq_false, not_false_eq_true, Classical.not_not, Bool.false_eq_true, if_true, if_false, z0, bI_k0, bI_k1, isB_b, isB_0, isB_1, kI_long, kd_stI, ln_stI, rv_stI]
  by_cases q1 : a < 0
  · rw [if_pos q1]
    exact fin (by omega)
  · rw [if_neg q1]
    by_cases q2 : a ≤ m
    · rw [if_pos q2]
      unfold bI32
      rw [if_pos (Or.inl (by omega))]
      (all_goals first | exact ⟨rfl, rfl⟩ | exact ⟨rfl, trivial⟩ | rfl | trivial)
    · rw [if_neg q2]
      exact fin (by omega)
theorem fo_0 (ab : Nat → Nat) (n h : Nat) : fo ab n 0 h = if (ab (n - 1)).testBit h = true then some 0 else none := rfl
theorem fo_s (ab : Nat → Nat) (n j h : Nat) : fo ab n (j + 1) h = if (ab (n - 1 - (j + 1))).testBit h = true then aftO (fo ab n j) h else none := rfl
/-- what fewestChanges leaves -/
def OutC (T : Nat → Nat) (ab : Nat → Nat) (n : Nat) (h h' : AH) : Prop := FS T h h' ∧ ((∃ x, aftO (fo ab n (n - 1)) (-1) = some x) → ∀ i, i < n → ivA h' 72 i = kI (chF ab n i))
theorem Se_fewest_g {T : Nat → Nat} {s : ST} {p : Nat} {y : DY} {v : Int} {hs : List DY} {nx : Nat} {h : AH} (B : BX T s p y v hs nx h) {w : TW} (X : XTs w h) (W : WTs w) {t : Nat} (ht : t < 4) (q3 : w.1 t ≠ -1) (n1 : 1 ≤ w.2.1 t) (n12 : w.2.1 t ≤ 12) (ok : ∀ i, i < w.2.1 t → okB s (w.2.2 t) (yD y) i = true) : GI 6 m_Se_fewestChanges [.ref 67, .ref p, .ref 8, .ref (74 + 2 * t)] h (kI (match aftO (fo (ablF s y (w.2.2 t)) (w.2.1 t) (w.2.1 t - 1)) (-1) with | none => -1 | some x => (x : Int))) (OutC T (ablF s y (w.2.2 t)) (w.2.1 t) h) := by
  have F := B.F
  refine GIo (s_Se_fewestChanges_0 ?_)
  refine ⟨by rw [kd_67 F]; rfl, ?_⟩
  refine GV.use (Se_findAble_g B X W ht q3 n12 ok) (by omega) (fun h1 e1 => ?_)
  have F1 := e1.1.fix F
  have X1 := X.fs B.t e1.1 t ht
  have Tf := tr_fix F1 ht
  have sz := X1.sz q3
  have al := fun i => ablF_lt B.S.wf y (w.2.2 t) i
  have A1 := e1.2
  generalize ablF s y (w.2.2 t) = ab at A1 al ⊢
  generalize w.2.1 t = n at n1 n12 sz A1 ⊢
  have mn : (if kI 12 < kI (n : Int) then kI 12 else kI n) = kI n := by
    rw [if_neg (by rw [kI_lt (by omega) (by omega) (by omega) (by omega)]; omega)]
  simp (disch := omega) only [Tf.2.1, kd_67 F1, rv_67_1 F1, kd_70 F1, ln_70 F1, isA, Nat.reduceLeDiff, Bool.and_true, Bool.true_or, decide_true, true_and, sz, Int.cast_ofNat_Int, mn, kI_sub]
  have fl : ∀ j, j < 12 → ∀ g, LeO (fo ab n j g) 20 := fun j hj g y ey => Nat.le_trans (fo_le ab n _ g y ey) (by omega)
  suffices H : ∀ k, k ≤ n → ∀ h2, FS T h h2 → (∀ i, i < n → ivA h2 70 i = kI (ab i)) → Filx ab n k h2 → Safe 5 m_Se_fewestChanges (27, [.ref 67, unV, unV, unV, .int (kI n), .int (kI ((k : Int) - 1)), unV, unV], [], h2) (fun x h' => Eqv x (some (.int (kI (match aftO (fo ab n (n - 1)) (-1) with | none => -1 | some x => (x : Int))))) ∧ OutC T ab n h h') by
    exact H n (by omega) h1 e1.1 A1 (fun i h1 h2 => by omega)
  intro k
  induction k with
  | zero =>
    intro _ h2 e2 A2 L2
    have F2 := e2.fix F
    have fn := fl (n - 1) (by omega)
    have row : ∀ g, g < 4 → ivA h2 71 (0 * 4 + g) = kI (eB 1048576 (fo ab n (n - 1) g)) := fun g hg => by
      have := L2 0 (by omega) (by omega) g hg
      rw [Nat.sub_zero] at this
      exact this
    refine s_Se_fewestChanges_27 ?_
    have zz : ((0 : Nat) : Int) - 1 < 0 := by omega
    have zz2 : (1 : Int) ≤ (n : Int) := by omega
    have fa := Se_fewestAfter_c (show 2 ≤ 5 by omega) F2 (i := 0) (hand := -1) (by omega) (by omega) (by omega) fn row (K := fun x2 h1 => Safe 5 m_Se_fewestChanges (137, [.ref 67, unV, unV, unV, .int (kI n), unV, unV, unV], [.int x2], h1) (fun x h' => Eqv x (some (.int (kI (match aftO (fo ab n (n - 1)) (-1) with | none => -1 | some x => (x : Int))))) ∧ OutC T ab n h h'))
    simp only [Int.cast_ofNat_Int] at fa
    simp (disch := omega) only [kd_67 F2, ix_lit, inB_lit, decide_true, Bool.true_or, Bool.or_true, true_and, and_true, kI_add, kI_sub, kI_mul, tn_add, Int.toNat_natCast, Int.reduceToNat, kI_le, kI_lt, kI_inj, decide_eq_true_eq, Bool.not_eq_true', decide_eq_false_iff_not, not_true_eq_false, not_false_eq_true, Classical.not_not, Bool.false_eq_true, if_true, if_false, z0, bI_k0, bI_k1, isB_b, isB_0, isB_1, kI_long, kd_stI, ln_stI, rv_stI, zz, zz2, fa]
    refine s_Se_fewestChanges_137 ?_
    have la := aftO_le fn (-1)
    cases ea : aftO (fo ab n (n - 1)) (-1) with
    | none =>
      have q : ¬ ((eB 1048576 (none : Option Nat) : Nat) : Int) < 1048576 := by show ¬ ((1048576 : Nat) : Int) < 1048576; omega
      have ql : (eB 1048576 (none : Option Nat)) = 1048576 := rfl
      rw [if_neg (by rw [decide_eq_true_eq, kI_lt (by omega) (by omega) (by omega) (by omega)]; exact q)]
      refine ⟨rfl, e2, fun w => ?_⟩
      obtain ⟨x, hx⟩ := w
      rw [ea] at hx
      cases hx
    | some x =>
      have lx := la x ea
      have ql : (eB 1048576 (some x)) = x := rfl
      rw [ql, if_pos (by rw [decide_eq_true_eq, kI_lt (by omega) (by omega) (by omega) (by omega)]; omega)]
      refine ⟨by rw [kd_67 F2]; rfl, ?_⟩
      refine GV.use (Se_choose_g (T := T) F2 n1 n12 L2 ea) (by omega) (fun h3 e3 => ?_)
      exact ⟨rfl, e2.trans (e3.1.mono (fun a k w => Or.inr (by omega)) (fun _ _ w => w)), fun _ => e3.2⟩
  | succ k ih =>
    intro hk h2 e2 A2 L2
    refine s_Se_fewestChanges_27 ?_
    have ek : ((k + 1 : Nat) : Int) - 1 = (k : Int) := by omega
    rw [ek]
    have zz : ¬ (k : Int) < 0 := by omega
    simp (disch := omega) only [ix_lit, inB_lit, decide_true, Bool.true_or, Bool.or_true, true_and, and_true, kI_add, kI_sub, kI_mul, tn_add, Int.toNat_natCast, Int.reduceToNat, kI_le, kI_lt, kI_inj, decide_eq_true_eq, Bool.not_eq_true', decide_eq_false_iff_not, not_true_eq_false, not_false_eq_true, Classical.not_not, Bool.false_eq_true, if_true, if_false, z0, bI_k0, bI_k1, isB_b, isB_0, isB_1, kI_long, kd_stI, ln_stI, rv_stI, zz]
    suffices H2 : ∀ g, g ≤ 4 → ∀ h3, FS T h h3 → (∀ i, i < n → ivA h3 70 i = kI (ab i)) → Filx ab n (k + 1) h3 → (∀ j, j < g → ivA h3 71 (k * 4 + j) = kI (eB 1048576 (fo ab n (n - 1 - k) j))) → Safe 5 m_Se_fewestChanges (35, [.ref 67, unV, unV, unV, .int (kI n), .int (kI k), .int (kI g), unV], [], h3) (fun x h' => Eqv x (some (.int (kI (match aftO (fo ab n (n - 1)) (-1) with | none => -1 | some x => (x : Int))))) ∧ OutC T ab n h h') by
      exact H2 0 (by omega) h2 e2 A2 L2 (fun j hj => by omega)
    refine down_ind 4 ?_ ?_
    · intro h3 e3 A3 L3 R3
      refine s_Se_fewestChanges_35 ?_
      simp (disch := omega) only [ix_lit, inB_lit, decide_true, Bool.true_or, Bool.or_true, true_and, and_true, kI_add, kI_sub, kI_mul, tn_add, Int.toNat_natCast, Int.reduceToNat, kI_le, kI_lt, kI_inj, decide_eq_true_eq, Bool.not_eq_true', decide_eq_false_iff_not, not_true_eq_false, not_false_eq_true, Classical.not_not, Bool.false_eq_true, if_true, if_false, z0, bI_k0, bI_k1, isB_b, isB_0, isB_1, kI_long, kd_stI, ln_stI, rv_stI, Int.cast_ofNat_Int, Int.le_refl]
      refine ih (by omega) h3 e3 A3 (fun i h1 h2 g hg => ?_)
      by_cases q : i = k
      · rw [q]; exact R3 g hg
      · exact L3 i (by omega) h2 g hg
    · intro g hg ih2 h3 e3 A3 L3 R3
      have F3 := e3.fix F
      have z4 : ¬ (4 : Int) ≤ (g : Int) := by omega
      have ak := A3 k (by omega)
      have al' := al k
      have ei : ix (kI ((k : Int) * 4 + g)) = k * 4 + g := by rw [ix_lit (by omega) (by omega)]; omega
      have eb : inB (kI ((k : Int) * 4 + g)) 48 = true := inB_lit (by omega) (by omega) (by omega)
      have fin : ∀ x : Nat, x = eB 1048576 (fo ab n (n - 1 - k) g) → Safe 5 m_Se_fewestChanges (35, [.ref 67, unV, unV, unV, .int (kI n), .int (kI k), .int (kI ((g + 1 : Nat) : Int)), unV], [], stI h3 71 (k * 4 + g) (kI x)) (fun x h' => Eqv x (some (.int (kI (match aftO (fo ab n (n - 1)) (-1) with | none => -1 | some x => (x : Int))))) ∧ OutC T ab n h h') := by
        intro x hx
        subst hx
        have f4 : FS T h3 (stI h3 71 (k * 4 + g) (kI (eB 1048576 (fo ab n (n - 1 - k) g)))) := (Fr_rfl (fun a _ => T a = 1 ∨ (67 ≤ a ∧ a ≤ 72)) JM h3).stI (Or.inr (by omega)) _
        refine ih2 _ (e3.trans f4) (fun i hi => ?_) (fun i h1 h2 j hj => ?_) (fun j hj => ?_)
        · rw [iv_stI, if_neg (by omega)]; exact A3 i hi
        · rw [iv_stI, if_neg (by omega)]; exact L3 i h1 h2 j hj
        · rw [iv_stI]
          by_cases q : j = g
          · rw [if_pos (by omega), q]
          · rw [if_neg (by omega)]
            exact R3 j (by omega)
      refine s_Se_fewestChanges_35 ?_
      simp (disch := omega) only [kd_67 F3, rv_67_1 F3, kd_70 F3, ln_70 F3, ix_lit, inB_lit, decide_true, Bool.true_or, Bool.or_true, true_and, and_true, kI_add, kI_sub, kI_mul, tn_add, Int.toNat_natCast, Int.reduceToNat, kI_le, kI_lt, kI_inj, decide_eq_true_eq, Bool.not_eq_true', decide_eq_false_iff_not, not_true_eq_false, not_false_eq_true, Classical.not_not, Bool.false_eq_true, if_true, if_false, z0, bI_k0, bI_k1, isB_b, isB_0, isB_1, kI_long, kd_stI, ln_stI, rv_stI, z4, ak, kI_bit]
      by_cases qb : (ab k).testBit g = true
      · rw [if_neg (fun w => w qb)]
        refine s_Se_fewestChanges_61 ?_
        by_cases ql : k + 1 = n
        · have ql' : (k : Int) + 1 = (n : Int) := by omega
          simp (disch := omega) only [kd_67 F3, rv_67_2 F3, kd_71 F3, ln_71 F3, ix_lit, inB_lit, decide_true, Bool.true_or, Bool.or_true, true_and, and_true, kI_add, kI_sub, kI_mul, tn_add, Int.toNat_natCast, Int.reduceToNat, kI_le, kI_lt, kI_inj, decide_eq_true_eq, Bool.not_eq_true', decide_eq_false_iff_not, not_true_eq_false, not_false_eq_true, Classical.not_not, Bool.false_eq_true, if_true, if_false, z0, bI_k0, bI_k1, isB_b, isB_0, isB_1, kI_long, kd_stI, ln_stI, rv_stI, Int.reduceEq, ql', ei, eb]
          refine fin 0 ?_
          rw [show n - 1 - k = 0 by omega, fo_0, show n - 1 = k by omega, if_pos qb]
          rfl
        · have ql' : ¬ (k : Int) + 1 = (n : Int) := by omega
          have row : ∀ j, j < 4 → ivA h3 71 ((k + 1) * 4 + j) = kI (eB 1048576 (fo ab n (n - 1 - (k + 1)) j)) := fun j hj => L3 (k + 1) (by omega) (by omega) j hj
          have fa := fun (K : Int32 → AH → Prop) => Se_fewestAfter_c (show 2 ≤ 5 by omega) F3 (i := k + 1) (hand := (g : Int)) (by omega) (by omega) (by omega) (fl (n - 1 - (k + 1)) (by omega)) row (K := K)
          simp only [Int.natCast_add, Int.cast_ofNat_Int] at fa
          simp (disch := omega) only [kd_67 F3, rv_67_2 F3, kd_71 F3, ln_71 F3, ix_lit, inB_lit, decide_true, Bool.true_or, Bool.or_true, true_and, and_true, kI_add, kI_sub, kI_mul, tn_add, Int.toNat_natCast, Int.reduceToNat, kI_le, kI_lt, kI_inj, decide_eq_true_eq, Bool.not_eq_true', decide_eq_false_iff_not, not_true_eq_false, not_false_eq_true, Classical.not_not, Bool.false_eq_true, if_true, if_false, z0, bI_k0, bI_k1, isB_b, isB_0, isB_1, kI_long, kd_stI, ln_stI, rv_stI, Int.reduceEq, ql', ei, eb, fa]
          refine fin _ ?_
          rw [show n - 1 - k = (n - 1 - (k + 1)) + 1 by omega, fo_s, show n - 1 - (n - 1 - (k + 1) + 1) = k by omega, if_pos qb]
      · rw [if_pos qb]
        refine s_Se_fewestChanges_61 ?_
        simp (disch := omega) only [kd_67 F3, rv_67_2 F3, kd_71 F3, ln_71 F3, ix_lit, inB_lit, decide_true, Bool.true_or, Bool.or_true, true_and, and_true, kI_add, kI_sub, kI_mul, tn_add, Int.toNat_natCast, Int.reduceToNat, kI_le, kI_lt, kI_inj, decide_eq_true_eq, Bool.not_eq_true', decide_eq_false_iff_not, not_true_eq_false, not_false_eq_true, Classical.not_not, Bool.false_eq_true, if_true, if_false, z0, bI_k0, bI_k1, isB_b, isB_0, isB_1, kI_long, kd_stI, ln_stI, rv_stI, ei, eb]
        refine fin 1048576 ?_
        by_cases ql : k + 1 = n
        · rw [show n - 1 - k = 0 by omega, fo_0, show n - 1 = k by omega, if_neg qb]
          rfl
        · rw [show n - 1 - k = (n - 1 - (k + 1)) + 1 by omega, fo_s, show n - 1 - (n - 1 - (k + 1) + 1) = k by omega, if_neg qb]
          rfl
