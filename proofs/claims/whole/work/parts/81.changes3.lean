/-! changes: the public call, and the reference -/
def prt (wh : Int) : Prop := (0 ≤ wh ∧ wh ≤ 0) ∨ (10 ≤ wh ∧ wh ≤ 21)
def chgR (ab : Nat → Nat) (n : Nat) (wh : Int) : Int := match aftO (fo ab n (n - 1)) (-1) with
  | none => -1
  | some x => if wh = 0 then (x : Int) else if wh - 10 < n then (chF ab n (wh - 10).toNat : Int) else -1
def chgA (s : ST) (y : DY) (w : TW) (t wh : Int) : Int := if (0 ≤ t ∧ t < 4) ∧ ((0 ≤ wh ∧ wh ≤ 0) ∨ (10 ≤ wh ∧ wh ≤ 21)) then (if seR s y (w.1 t.toNat) (w.2.1 t.toNat) (w.2.2 t.toNat) = 0 then chgR (ablF s y (w.2.2 t.toNat)) (w.2.1 t.toNat) wh else seR s y (w.1 t.toNat) (w.2.1 t.toNat) (w.2.2 t.toNat)) else -2
theorem X_changes_g {T : Nat → Nat} {s : ST} {p : Nat} {y : DY} {v : Int} {hs : List DY} {nx : Nat} {h : AH} (B : BX T s p y v hs nx h) {w : TW} (X : XTs w h) (W : WTs w) {t wh : Int} (t1 : -2147483648 ≤ t) (t2 : t ≤ 2147483647) (w1 : -2147483648 ≤ wh) (w2 : wh ≤ 2147483647) : GI 7 m_X_changes [.ref 1, .int (kI t), .int (kI wh)] h (kI (chgA s y w t wh)) (FS T h) := by
  have F := B.F
  refine GIo (s_X_changes_0 ?_)
  generalize hA : chgA s y w t wh = A
  unfold chgA at hA
  rw [X_isTray_c (by omega) t1 t2]
  by_cases q : 0 ≤ t ∧ t < 4
  · rw [if_neg (fun z => (dec_b0 _).mp z q)]
    rw [X_isPart_c (by omega) w1 w2 (by omega) (by omega)]
    by_cases q2 : (0 ≤ wh ∧ wh ≤ 0) ∨ (10 ≤ wh ∧ wh ≤ 21)
    · rw [if_pos ⟨q, q2⟩] at hA
      rw [if_pos (by rw [Bool.not_eq_true', ← Bool.not_eq_true]; exact fun z => (dec_b0 _).mp z q2)]
      obtain ⟨t, rfl⟩ := Int.eq_ofNat_of_zero_le q.1
      have ht : t < 4 := by omega
      have Tf := tr_fix F ht
      simp only [Int.toNat_natCast] at hA
      have sb := seR_b s y (w.1 t) (w.2.1 t) (w.2.2 t)
      have ei : ix (kI (t : Int)) = t := ix_kI (by omega)
      have eb : inB (kI (t : Int)) 4 = true := inB_kI (by omega) ht
      have rf := fun (K : Int32 → AH → Prop) => Se_refusal_c B X W ht (show 2 ≤ 6 by omega) (K := K)
      simp only [kd_1 F, B.r, rv_1_11 F, kd_73 F, ln_73 F, Tf.1, rv_1_10 F, kd_67 F, rv_1_3 F, decide_true, true_and, Nat.reduceLeDiff, eb, ei]
      rw [rf]
      by_cases z : seR s y (w.1 t) (w.2.1 t) (w.2.2 t) = 0
      · rw [if_pos z] at hA
        rw [if_pos (by rw [z]; rfl)]
        have z3 := seR_0 z
        simp only [kd_1 F, B.r, rv_1_11 F, kd_73 F, ln_73 F, Tf.1, rv_1_10 F, kd_67 F, rv_1_3 F, decide_true, true_and, Nat.reduceLeDiff, eb, ei]
        refine GI.use (Se_fewest_g B X W ht z3.1 z3.2.1.1 z3.2.1.2 z3.2.2) (by omega) (fun h1 e1 => ?_)
        have F1 := e1.1.fix F
        have B1 := B.fs e1.1
        have X1 := X.fs B.t e1.1 t ht
        have Tf1 := tr_fix F1 ht
        have sz := X1.sz z3.1
        unfold chgR at hA
        have n12 := z3.2.1
        cases ea : aftO (fo (ablF s y (w.2.2 t)) (w.2.1 t) (w.2.1 t - 1)) (-1) with
        | none =>
          rw [ea] at hA
          have hA' : (-1 : Int) = A := hA
          subst hA'
          simp (disch := omega) only [ix_lit, inB_lit, decide_true, Bool.true_or, Bool.or_true, true_and, and_true, kI_add, kI_sub, kI_mul, tn_add, Int.toNat_natCast, Int.reduceToNat, kI_le, kI_lt, kI_inj, decide_eq_true_eq, Bool.not_eq_true', decide_eq_false_iff_not, not_true_eq_false, not_false_eq_true, Classical.not_not, Bool.false_eq_true, if_true, if_false, z0, bI_k0, bI_k1, isB_b, isB_0, isB_1, kI_long, kd_stI, ln_stI, rv_stI]
          by_cases zw : wh = 0
          · rw [if_pos zw]; exact ⟨rfl, e1.1⟩
          · rw [if_neg zw]; exact ⟨rfl, e1.1⟩
        | some x =>
          rw [ea] at hA
          have xb : x ≤ 100 := by
            have := aftO_le (fun g u eu => Nat.le_trans (fo_le (ablF s y (w.2.2 t)) (w.2.1 t) (w.2.1 t - 1) g u eu) (show w.2.1 t - 1 ≤ 20 by omega)) (-1) x ea
            omega
          have hA' : (if wh = 0 then (x : Int) else if wh - 10 < (w.2.1 t : Int) then (chF (ablF s y (w.2.2 t)) (w.2.1 t) (wh - 10).toNat : Int) else -1) = A := hA
          subst hA'
          have xn : ¬ (x : Int) = -1 := by omega
          simp (disch := omega) only [kd_1 F1, rv_1_11 F1, kd_73 F1, ln_73 F1, Tf1.1, Tf1.2.1, rv_1_10 F1, kd_67 F1, Nat.reduceLeDiff, ix_lit, inB_lit, decide_true, Bool.true_or, Bool.or_true, true_and, and_true, kI_add, kI_sub, kI_mul, tn_add, Int.toNat_natCast, Int.reduceToNat, kI_le, kI_lt, kI_inj, decide_eq_true_eq, Bool.not_eq_true', decide_eq_false_iff_not, not_true_eq_false, not_false_eq_true, Classical.not_not, Bool.false_eq_true, if_true, if_false, z0, bI_k0, bI_k1, isB_b, isB_0, isB_1, kI_long, kd_stI, ln_stI, rv_stI, sz, xn]
          by_cases zw : wh = 0
          · rw [if_pos zw, if_pos zw]; exact ⟨rfl, e1.1⟩
          · rw [if_neg zw, if_neg zw]
            by_cases zn : wh - 10 < (w.2.1 t : Int)
            · rw [if_neg (by omega), if_pos zn]
              have e72 := e1.2 ⟨x, ea⟩ (wh - 10).toNat (by omega)
              have ew : wh - 10 = ((wh - 10).toNat : Int) := by omega
              have au : ∀ K : Int32 → AH → Prop, CallI 6 m_Se_author [.ref 67, .int (kI (wh - 10))] h1 K ↔ K (kI (chF (ablF s y (w.2.2 t)) (w.2.1 t) (wh - 10).toNat)) h1 := by
                intro K
                refine Ret.I (d := 1) (ret_of (s_Se_author_0 ?_)) (by omega)
                rw [ew]
                have a1 : ¬ ((wh - 10).toNat : Int) < 0 := by omega
                have a2 : ¬ (12 : Int) ≤ ((wh - 10).toNat : Int) := by omega
                simp (disch := omega) only [kd_67 F1, rv_67_3 F1, kd_72 F1, ln_72 F1, isA, Nat.reduceLeDiff, Bool.and_true, ix_lit, inB_lit, decide_true, Bool.true_or, Bool.or_true, true_and, and_true, kI_add, kI_sub, kI_mul, tn_add, Int.toNat_natCast, Int.reduceToNat, kI_le, kI_lt, kI_inj, decide_eq_true_eq, Bool.not_eq_true', decide_eq_false_iff_not, not_true_eq_false, not_false_eq_true, Classical.not_not, Bool.false_eq_true, if_true, if_false, z0, bI_k0, bI_k1, isB_b, isB_0, isB_1, kI_long, kd_stI, ln_stI, rv_stI, Int.cast_ofNat_Int, a1, a2, e72]
                (all_goals first | exact ⟨rfl, rfl⟩ | exact ⟨rfl, trivial⟩ | rfl | trivial)
              rw [au]
              exact ⟨rfl, e1.1⟩
            · rw [if_pos (by omega), if_neg zn]
              exact ⟨rfl, e1.1⟩
      · rw [if_neg z] at hA
        subst hA
        rw [if_neg (by rw [decide_eq_true_eq, z0, kI_inj (by omega) (by omega) (by omega) (by omega)]; exact z)]
        exact ⟨rfl, Fr_rfl _ _ _⟩
    · rw [if_neg (fun w => q2 w.2)] at hA
      subst hA
      rw [if_neg (by rw [Bool.not_eq_true', ← Bool.not_eq_true]; exact fun z => z ((dec_b0 _).mpr q2))]
      exact ⟨rfl, Fr_rfl _ _ _⟩
  · rw [if_neg (fun w => q w.1)] at hA
    subst hA
    rw [if_pos ((dec_b0 _).mpr q)]
    exact ⟨rfl, Fr_rfl _ _ _⟩
theorem M_fewBy_c {d : Nat} (hd : 1 ≤ d) {h : AH} (F : Fix h) {i g : Nat} {hand : Nat} (hi : i < 11) (hg : g < 4) (hh : hand < 4) {z : Nat} (hz : z ≤ 268435456) (e : ivA h 102 (4 * (i + 1) + g) = kI z) {K : Int32 → AH → Prop} : CallI d m_M_fewBy [.ref 88, .int (kI i), .int (kI hand), .int (kI g)] h K ↔ K (kI ((z + cst hand g : Nat) : Int)) h := by
  refine Ret.I (d := 1) (ret_of (s_M_fewBy_0 ?_)) hd
  have ei : ix (kI (4 * ((i : Int) + 1) + g)) = 4 * (i + 1) + g := by rw [ix_lit (by omega) (by omega)]; omega
  have eb : inB (kI (4 * ((i : Int) + 1) + g)) 48 = true := inB_lit (by omega) (by omega) (by omega)
  simp (disch := omega) only [kd_88 F, rv_88_27 F, kd_102 F, ln_102 F, ix_lit, inB_lit, decide_true, Bool.true_or, Bool.or_true, true_and, and_true, kI_add, kI_sub, kI_mul, tn_add, Int.toNat_natCast, Int.reduceToNat, kI_le, kI_lt, kI_inj, decide_eq_true_eq, Bool.not_eq_true', decide_eq_false_iff_not, not_true_eq_false, not_false_eq_true, Classical.not_not, Bool.false_eq_true, if_true, if_false, z0, bI_k0, bI_k1, isB_b, isB_0, isB_1, kI_long, kd_stI, ln_stI, rv_stI, ei, eb, e]
  unfold cst
  by_cases q2 : (hand : Int) = (g : Int)
  · rw [if_neg (by omega), if_pos (Or.inr q2)]
    (all_goals first | exact ⟨rfl, rfl⟩ | exact ⟨rfl, trivial⟩ | rfl | trivial)
  · rw [if_pos (by omega), if_neg (fun w => by omega)]
    (all_goals first | exact ⟨rfl, rfl⟩ | exact ⟨rfl, trivial⟩ | rfl | trivial)
/-- the rows of the reference's table that are filled -/
def Film (ab : Nat → Nat) (n k : Nat) (h : AH) : Prop := ∀ i, k ≤ i → i < n → ∀ g, g < 4 → ivA h 102 (4 * i + g) = kI (eB 268435456 (fo ab n (n - 1 - i) g))
abbrev FW (h h' : AH) : Prop := Fr (fun a k => IM a k ∨ a = 102) JM h h'
theorem MC.fw {s : ST} {y : DY} {h h' : AH} (C : MC s y h) (e : FW h h') : MC s y h' := C.scr e (fun k w => by unfold IM at w; omega)
theorem MTs.fw {w : TW} {h h' : AH} (X : MTs w h) (e : FW h h') : MTs w h' := X.fr e (fun a k h1 h2 => ⟨fun w => by unfold IM at w; omega, fun w => w⟩)
theorem m4_0 {f : Nat → Option Nat} (e : ∃ k, f k = some 0 ∧ k < 4) : m4 f 4 = some 0 := by
  obtain ⟨k, e, hk⟩ := e
  have lo : ∀ a b, omin a b = some 0 ∨ (omin a b ≠ some 0 ∧ a ≠ some 0 ∧ b ≠ some 0) := by
    intro a b
    cases a with
    | none => cases b with
      | none => exact Or.inr ⟨by simp [omin], by simp, by simp⟩
      | some y =>
        by_cases q : y = 0
        · subst q; exact Or.inl rfl
        · exact Or.inr ⟨by simp [omin, q], by simp, by simp [q]⟩
    | some x => cases b with
      | none =>
        by_cases q : x = 0
        · subst q; exact Or.inl rfl
        · exact Or.inr ⟨by simp [omin, q], by simp [q], by simp⟩
      | some y =>
        by_cases q : x = 0
        · subst q; exact Or.inl (by simp [omin])
        · by_cases q2 : y = 0
          · subst q2; exact Or.inl (by simp [omin])
          · refine Or.inr ⟨?_, by simp [q], by simp [q2]⟩
            simp only [omin]
            intro w
            have := Option.some.inj w
            split at this <;> omega
  have st : ∀ m, m4 f m = some 0 → m4 f (m + 1) = some 0 := by
    intro m hm
    show omin (m4 f m) (f m) = some 0
    rcases lo (m4 f m) (f m) with w | w
    · exact w
    · exact absurd hm w.2.1
  have at' : m4 f (k + 1) = some 0 := by
    show omin (m4 f k) (f k) = some 0
    rcases lo (m4 f k) (f k) with w | w
    · exact w
    · exact absurd e w.2.2
  have up : ∀ m, k + 1 + m ≤ 4 → m4 f (k + 1 + m) = some 0 := by
    intro m
    induction m with
    | zero => intro _; exact at'
    | succ m ih => intro hm; exact st _ (ih (by omega))
  have := up (4 - (k + 1)) (by omega)
  rw [show k + 1 + (4 - (k + 1)) = 4 by omega] at this
  exact this
theorem M_laysFew_g {s : ST} {y : DY} {h : AH} (C : MC s y h) {w : TW} (X : MTs w h) (W : WTs w) {t : Nat} (ht : t < 4) (q3 : w.1 t ≠ -1) (n1 : 1 ≤ w.2.1 t) (n12 : w.2.1 t ≤ 12) (ok : ∀ i, i < w.2.1 t → okB s (w.2.2 t) (yD y) i = true) : GV 8 m_M_laysFew [.ref 88, .int (kI t)] h (fun h' => FW h h' ∧ Film (ablF s y (w.2.2 t)) (w.2.1 t) 0 h') := by
  have F := C.fix
  refine GVo (s_M_laysFew_0 ?_)
  have al := fun i => ablF_lt C.wf y (w.2.2 t) i
  have hAs := fun (h2 : AH) (e2 : FW h h2) (i : Nat) (hi : i < w.2.1 t) => M_handsAs_g (C.fw e2) (X.fw e2) W ht q3 ok hi
  have xn0 := (X t ht).n q3
  have xn := fun (h2 : AH) (e2 : FW h h2) => (X.fw e2 t ht).n q3
  generalize ablF s y (w.2.2 t) = ab at al hAs ⊢
  generalize w.2.1 t = n at n1 n12 xn0 xn hAs ⊢
  simp (disch := omega) only [kd_88 F, rv_88_29 F, kd_104 F, ln_104 F, ix_lit, inB_lit, decide_true, Bool.true_or, Bool.or_true, true_and, and_true, kI_add, kI_sub, kI_mul, tn_add, Int.toNat_natCast, Int.reduceToNat, kI_le, kI_lt, kI_inj, decide_eq_true_eq, Bool.not_eq_true', decide_eq_false_iff_not, not_true_eq_false, not_false_eq_true, Classical.not_not, Bool.false_eq_true, if_true, if_false, z0, bI_k0, bI_k1, isB_b, isB_0, isB_1, kI_long, kd_stI, ln_stI, rv_stI, xn0]
  have fl : ∀ j, j < 12 → ∀ g, LeO (fo ab n j g) 20 := fun j hj g y ey => Nat.le_trans (fo_le ab n _ g y ey) (by omega)
  suffices H : ∀ k, k ≤ n → ∀ h2, FW h h2 → Film ab n k h2 → Safe 7 m_M_laysFew (9, [.ref 88, .int (kI t), .int (kI ((k : Int) - 1)), unV, unV, unV, unV], [], h2) (fun x h' => Eqv x none ∧ FW h h' ∧ Film ab n 0 h') by
    exact H n (by omega) h (Fr_rfl _ _ _) (fun i h1 h2 => by omega)
  intro k
  induction k with
  | zero =>
    intro _ h2 e2 L2
    refine s_M_laysFew_9 ?_
    have zz : ((0 : Nat) : Int) - 1 < 0 := by omega
    simp (disch := omega) only [ix_lit, inB_lit, decide_true, Bool.true_or, Bool.or_true, true_and, and_true, kI_add, kI_sub, kI_mul, tn_add, Int.toNat_natCast, Int.reduceToNat, kI_le, kI_lt, kI_inj, decide_eq_true_eq, Bool.not_eq_true', decide_eq_false_iff_not, not_true_eq_false, not_false_eq_true, Classical.not_not, Bool.false_eq_true, if_true, if_false, z0, bI_k0, bI_k1, isB_b, isB_0, isB_1, kI_long, kd_stI, ln_stI, rv_stI, zz]
    exact ⟨rfl, e2, L2⟩
  | succ k ih =>
    intro hk h2 e2 L2
    have F2 := e2.fix F
    refine s_M_laysFew_9 ?_
    have ek : ((k + 1 : Nat) : Int) - 1 = (k : Int) := by omega
    rw [ek]
    have zz : ¬ (k : Int) < 0 := by omega
    simp (disch := omega) only [kd_88 F2, ix_lit, inB_lit, decide_true, Bool.true_or, Bool.or_true, true_and, and_true, kI_add, kI_sub, kI_mul, tn_add, Int.toNat_natCast, Int.reduceToNat, kI_le, kI_lt, kI_inj, decide_eq_true_eq, Bool.not_eq_true', decide_eq_false_iff_not, not_true_eq_false, not_false_eq_true, Classical.not_not, Bool.false_eq_true, if_true, if_false, z0, bI_k0, bI_k1, isB_b, isB_0, isB_1, kI_long, kd_stI, ln_stI, rv_stI, zz]
    refine GI.use (hAs h2 e2 k (by omega)) (by omega) (fun h3 e3 => ?_)
    have g3 : FW h h3 := e2.trans (e3.mono (fun a k w => Or.inl w) (fun _ _ w => w))
    have L3 : Film ab n (k + 1) h3 := fun i h1 h2 g hg => by
      rw [e3.2.2.2.2.2.1 _ _ (by unfold IM; omega)]
      exact L2 i h1 h2 g hg
    have ak := al k
    suffices H2 : ∀ g, g ≤ 4 → ∀ h4, FW h h4 → Film ab n (k + 1) h4 → (∀ j, j < g → ivA h4 102 (4 * k + j) = kI (eB 268435456 (fo ab n (n - 1 - k) j))) → Safe 7 m_M_laysFew (23, [.ref 88, .int (kI t), .int (kI k), .int (kI (ab k)), .int (kI g), unV, unV], [], h4) (fun x h' => Eqv x none ∧ FW h h' ∧ Film ab n 0 h') by
      exact H2 0 (by omega) h3 g3 L3 (fun j hj => by omega)
    refine down_ind 4 ?_ ?_
    · intro h4 e4 L4 R4
      refine s_M_laysFew_23 ?_
      simp (disch := omega) only [ix_lit, inB_lit, decide_true, Bool.true_or, Bool.or_true, true_and, and_true, kI_add, kI_sub, kI_mul, tn_add, Int.toNat_natCast, Int.reduceToNat, kI_le, kI_lt, kI_inj, decide_eq_true_eq, Bool.not_eq_true', decide_eq_false_iff_not, not_true_eq_false, not_false_eq_true, Classical.not_not, Bool.false_eq_true, if_true, if_false, z0, bI_k0, bI_k1, isB_b, isB_0, isB_1, kI_long, kd_stI, ln_stI, rv_stI, Int.cast_ofNat_Int, Int.le_refl]
      have em : ((k : Int) + -1) = (k : Int) - 1 := by omega
      rw [em]
      refine ih (by omega) h4 e4 (fun i h1 h2 g hg => ?_)
      by_cases q : i = k
      · rw [q]; exact R4 g hg
      · exact L4 i (by omega) h2 g hg
    · intro g hg ih2 h4 e4 L4 R4
      have F4 := e4.fix F
      have z4 : ¬ (4 : Int) ≤ (g : Int) := by omega
      have ei : ix (kI (4 * (k : Int) + g)) = 4 * k + g := by rw [ix_lit (by omega) (by omega)]; omega
      have eb : inB (kI (4 * (k : Int) + g)) 48 = true := inB_lit (by omega) (by omega) (by omega)
      have st : ∀ x : Nat, x = eB 268435456 (fo ab n (n - 1 - k) g) → Safe 7 m_M_laysFew (23, [.ref 88, .int (kI t), .int (kI k), .int (kI (ab k)), .int (kI ((g + 1 : Nat) : Int)), unV, unV], [], stI h4 102 (4 * k + g) (kI x)) (fun x h' => Eqv x none ∧ FW h h' ∧ Film ab n 0 h') := by
        intro x hx
        subst hx
        have f4 : FW h4 (stI h4 102 (4 * k + g) (kI (eB 268435456 (fo ab n (n - 1 - k) g)))) := (Fr_rfl (fun a k => IM a k ∨ a = 102) JM h4).stI (Or.inr rfl) _
        refine ih2 _ (e4.trans f4) (fun i h1 h2 j hj => ?_) (fun j hj => ?_)
        · rw [iv_stI, if_neg (by omega)]; exact L4 i h1 h2 j hj
        · rw [iv_stI]
          by_cases q : j = g
          · rw [if_pos (by omega), q]
          · rw [if_neg (by omega)]
            exact R4 j (by omega)
      /- the end of the search: place 100 -/
      have endS : ∀ o : Option Nat, LeO o 30 → fo ab n (n - 1 - k) g = (if (ab k).testBit g = true then o else none) → Safe 7 m_M_laysFew (100, [.ref 88, .int (kI t), .int (kI k), .int (kI (ab k)), .int (kI g), .int (kI (eB 268435456 o)), unV], [], h4) (fun x h' => Eqv x none ∧ FW h h' ∧ Film ab n 0 h') := by
        intro o ho ef
        have lo := eB_le ho (show 30 ≤ 268435456 by omega)
        refine s_M_laysFew_100 ?_
        have f133 : Safe 7 m_M_laysFew (23, [.ref 88, .int (kI t), .int (kI k), .int (kI (ab k)), .int (kI ((g + 1 : Nat) : Int)), unV, unV], [], stI h4 102 (4 * k + g) (kI 268435456)) (fun x h' => Eqv x none ∧ FW h h' ∧ Film ab n 0 h') → Safe 7 m_M_laysFew (133, [.ref 88, .int (kI t), .int (kI k), .int (kI (ab k)), .int (kI g), unV, unV], [.int (kI (4 * (k : Int) + g)), .ref 102], h4) (fun x h' => Eqv x none ∧ FW h h' ∧ Film ab n 0 h') := by
          intro HH
          refine s_M_laysFew_133 ?_
          simp (disch := omega) only [kd_102 F4, ln_102 F4, ei, eb, decide_true, true_and, kI_add]
          exact HH
        by_cases qb : (ab k).testBit g = true
        · rw [if_pos qb] at ef
          cases o with
          | none =>
            have le : (268435456 : Int) ≤ ((eB 268435456 (none : Option Nat) : Nat) : Int) := by show (268435456 : Int) ≤ ((268435456 : Nat) : Int); omega
            simp (disch := omega) only [kd_88 F4, rv_88_27 F4, ix_lit, inB_lit, decide_true, Bool.true_or, Bool.or_true, true_and, and_true, kI_add, kI_sub, kI_mul, tn_add, Int.toNat_natCast, Int.reduceToNat, kI_le, kI_lt, kI_inj, decide_eq_true_eq, Bool.not_eq_true', decide_eq_false_iff_not, not_true_eq_false, not_false_eq_true, Classical.not_not, Bool.false_eq_true, if_true, if_false, z0, bI_k0, bI_k1, isB_b, isB_0, isB_1, kI_long, kd_stI, ln_stI, rv_stI, M_isIn_c, qb, le]
            exact f133 (st 268435456 (by rw [ef]; rfl))
          | some x =>
            have lx := ho x rfl
            have ex : eB 268435456 (some x) = x := rfl
            rw [ex]
            have le : ¬ (268435456 : Int) ≤ (x : Int) := by omega
            simp (disch := omega) only [kd_88 F4, rv_88_27 F4, kd_102 F4, ln_102 F4, ix_lit, inB_lit, decide_true, Bool.true_or, Bool.or_true, true_and, and_true, kI_add, kI_sub, kI_mul, tn_add, Int.toNat_natCast, Int.reduceToNat, kI_le, kI_lt, kI_inj, decide_eq_true_eq, Bool.not_eq_true', decide_eq_false_iff_not, not_true_eq_false, not_false_eq_true, Classical.not_not, Bool.false_eq_true, if_true, if_false, z0, bI_k0, bI_k1, isB_b, isB_0, isB_1, kI_long, kd_stI, ln_stI, rv_stI, M_isIn_c, qb, le, ei, eb]
            exact st x (by rw [ef]; rfl)
        · have qb' : (ab k).testBit g = false := by simpa using qb
          rw [if_neg qb] at ef
          simp (disch := omega) only [kd_88 F4, rv_88_27 F4, ix_lit, inB_lit, decide_true, Bool.true_or, Bool.or_true, true_and, and_true, kI_add, kI_sub, kI_mul, tn_add, Int.toNat_natCast, Int.reduceToNat, kI_le, kI_lt, kI_inj, decide_eq_true_eq, Bool.not_eq_true', decide_eq_false_iff_not, not_true_eq_false, not_false_eq_true, Classical.not_not, Bool.false_eq_true, if_true, if_false, z0, bI_k0, bI_k1, isB_b, isB_0, isB_1, kI_long, kd_stI, ln_stI, rv_stI, M_isIn_c, qb']
          exact f133 (st 268435456 (by rw [ef]; rfl))
      refine s_M_laysFew_23 ?_
      have xn4 := xn h4 e4
      simp (disch := omega) only [kd_88 F4, rv_88_29 F4, kd_104 F4, ln_104 F4, xn4, ix_lit, inB_lit, decide_true, Bool.true_or, Bool.or_true, true_and, and_true, kI_add, kI_sub, kI_mul, tn_add, Int.toNat_natCast, Int.reduceToNat, kI_le, kI_lt, kI_inj, decide_eq_true_eq, Bool.not_eq_true', decide_eq_false_iff_not, not_true_eq_false, not_false_eq_true, Classical.not_not, Bool.false_eq_true, if_true, if_false, z0, bI_k0, bI_k1, isB_b, isB_0, isB_1, kI_long, kd_stI, ln_stI, rv_stI, z4]
      by_cases ql : k + 1 = n
      · rw [if_neg (by omega)]
        refine s_M_laysFew_53 ?_
        simp (disch := omega) only [ix_lit, inB_lit, decide_true, Bool.true_or, Bool.or_true, true_and, and_true, kI_add, kI_sub, kI_mul, tn_add, Int.toNat_natCast, Int.reduceToNat, kI_le, kI_lt, kI_inj, decide_eq_true_eq, Bool.not_eq_true', decide_eq_false_iff_not, not_true_eq_false, not_false_eq_true, Classical.not_not, Bool.false_eq_true, if_true, if_false, z0, bI_k0, bI_k1, isB_b, isB_0, isB_1, kI_long, kd_stI, ln_stI, rv_stI, Int.reduceLE]
        have := endS (some 0) (fun x ex => by cases ex; omega) (by rw [show n - 1 - k = 0 by omega, fo_0, show n - 1 = k by omega])
        exact this
      · rw [if_pos (by omega)]
        have row : ∀ j, j < 4 → ivA h4 102 (4 * (k + 1) + j) = kI (eB 268435456 (fo ab n (n - 1 - (k + 1)) j)) := fun j hj => L4 (k + 1) (by omega) (by omega) j hj
        have fk := fl (n - 1 - (k + 1)) (by omega)
        have ef : fo ab n (n - 1 - k) g = (if (ab k).testBit g = true then aftO (fo ab n (n - 1 - (k + 1))) g else none) := by
          rw [show n - 1 - k = (n - 1 - (k + 1)) + 1 by omega, fo_s, show n - 1 - (n - 1 - (k + 1) + 1) = k by omega]
        generalize fo ab n (n - 1 - (k + 1)) = f at row fk ef
        have hF : ∀ j, LeO (adO (f j) (cst g j)) 21 := fun j x ex => by
          have c1 := cst_le g j
          obtain ⟨z, hz, hx⟩ := adO_some ex
          have := fk j z hz
          omega
        suffices H5 : ∀ j, j ≤ 4 → Safe 7 m_M_laysFew (53, [.ref 88, .int (kI t), .int (kI k), .int (kI (ab k)), .int (kI g), .int (kI (eB 268435456 (m4 (fun j => adO (f j) (cst g j)) j))), .int (kI j)], [], h4) (fun x h' => Eqv x none ∧ FW h h' ∧ Film ab n 0 h') by
          exact H5 0 (by omega)
        refine down_ind 4 ?_ ?_
        · refine s_M_laysFew_53 ?_
          simp (disch := omega) only [ix_lit, inB_lit, decide_true, Bool.true_or, Bool.or_true, true_and, and_true, kI_add, kI_sub, kI_mul, tn_add, Int.toNat_natCast, Int.reduceToNat, kI_le, kI_lt, kI_inj, decide_eq_true_eq, Bool.not_eq_true', decide_eq_false_iff_not, not_true_eq_false, not_false_eq_true, Classical.not_not, Bool.false_eq_true, if_true, if_false, z0, bI_k0, bI_k1, isB_b, isB_0, isB_1, kI_long, kd_stI, ln_stI, rv_stI, Int.cast_ofNat_Int, Int.le_refl]
          exact endS (aftO f g) (fun x ex => Nat.le_trans (aftO_le fk g x ex) (by omega)) ef
        · intro j hj ih5
          have z5 : ¬ (4 : Int) ≤ (j : Int) := by omega
          have l1 := eB_le (fk j) (show 20 ≤ 268435456 by omega)
          have l2 := eB_le (m4_le hF j) (show 21 ≤ 268435456 by omega)
          have c1 := cst_le g j
          have em := emb_min (B := 268435456) (m4_le hF j) (b := f j) (fun x ex => Nat.le_trans (fk j x ex) (by omega)) (by omega) c1
          have e2 : m4 (fun j => adO (f j) (cst g j)) (j + 1) = omin (m4 (fun j => adO (f j) (cst g j)) j) (adO (f j) (cst g j)) := rfl
          rw [e2, ← em] at ih5
          refine s_M_laysFew_53 ?_
          by_cases qz : eB 268435456 (m4 (fun j => adO (f j) (cst g j)) j) = 0
          · have qz' : ((eB 268435456 (m4 (fun j => adO (f j) (cst g j)) j) : Nat) : Int) ≤ 0 := by omega
            simp (disch := omega) only [ix_lit, inB_lit, decide_true, Bool.true_or, Bool.or_true, true_and, and_true, kI_add, kI_sub, kI_mul, tn_add, Int.toNat_natCast, Int.reduceToNat, kI_le, kI_lt, kI_inj, decide_eq_true_eq, Bool.not_eq_true', decide_eq_false_iff_not, not_true_eq_false, not_false_eq_true, Classical.not_not, Bool.false_eq_true, if_true, if_false, z0, bI_k0, bI_k1, isB_b, isB_0, isB_1, kI_long, kd_stI, ln_stI, rv_stI, z5, qz']
            have em0 : m4 (fun j => adO (f j) (cst g j)) j = some 0 := by
              cases eo : m4 (fun j => adO (f j) (cst g j)) j with
              | none => rw [eo] at qz; cases qz
              | some x => rw [eo] at qz; have : x = 0 := qz; rw [this]
            obtain ⟨i0, hi0, hx0⟩ := m4_ex em0
            have ea : aftO f g = some 0 := m4_0 ⟨i0, hx0, by omega⟩
            rw [em0]
            exact endS (some 0) (fun x ex => by cases ex; omega) (by rw [ef, ea])
          · have qz' : ¬ ((eB 268435456 (m4 (fun j => adO (f j) (cst g j)) j) : Nat) : Int) ≤ 0 := by omega
            simp (disch := omega) only [kd_88 F4, ix_lit, inB_lit, decide_true, Bool.true_or, Bool.or_true, true_and, and_true, kI_add, kI_sub, kI_mul, tn_add, Int.toNat_natCast, Int.reduceToNat, kI_le, kI_lt, kI_inj, decide_eq_true_eq, Bool.not_eq_true', decide_eq_false_iff_not, not_true_eq_false, not_false_eq_true, Classical.not_not, Bool.false_eq_true, if_true, if_false, z0, bI_k0, bI_k1, isB_b, isB_0, isB_1, kI_long, kd_stI, ln_stI, rv_stI, z5, qz', M_fewBy_c (show 1 ≤ 7 by omega) F4 (show k < 11 by omega) hj hg l1 (row j hj)]
            by_cases q : eB 268435456 (f j) + cst g j < eB 268435456 (m4 (fun j => adO (f j) (cst g j)) j)
            · rw [if_pos q] at ih5
              rw [if_neg (by omega)]
              exact ih5
            · rw [if_neg q] at ih5
              rw [if_pos (by omega)]
              exact ih5
