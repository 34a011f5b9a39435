/-! told deeds: judge, perform, night -/
def tlF (s : ST) (f : Nat → Int) : Nat → Nat → DY → Nat × DY × Nat
  | 0, i, y => (i, y, 0)
  | m + 1, i, y => if whyD s y (f i) = 0 then tlF s f m (i + 1) (dD y (f i)) else (i, y, whyD s y (f i))
theorem tlF_wf {s : ST} {f : Nat → Int} : ∀ (m i : Nat) {y : DY}, WFY s y → WFY s (tlF s f m i y).2.1
  | 0, i, y, w => w
  | m + 1, i, y, w => by
    unfold tlF
    split
    · rename_i q
      exact tlF_wf m (i + 1) (w.ofD q)
    · exact w
theorem tlF_b {s : ST} {f : Nat → Int} : ∀ (m i : Nat) (y : DY), i ≤ (tlF s f m i y).1 ∧ (tlF s f m i y).1 ≤ i + m ∧ (tlF s f m i y).2.2 ≤ 3
  | 0, i, y => ⟨Nat.le_refl _, Nat.le_refl _, by show 0 ≤ 3; omega⟩
  | m + 1, i, y => by
    unfold tlF
    split
    · have := tlF_b (s := s) (f := f) m (i + 1) (dD y (f i))
      omega
    · have := whyD_le s y (f i)
      exact ⟨Nat.le_refl _, by show i ≤ i + (m + 1); omega, this⟩
def judA (s : ST) (y : DY) (so : Int) (n : Nat) (f : Nat → Int) (w : Int) : Int := if so = -1 then -6 else (if w = 0 then (if (tlF s f n 0 y).2.2 = 0 then -1 else ((tlF s f n 0 y).1 : Int)) else if w = 1 then ((tlF s f n 0 y).2.2 : Int) else if w = 2 then (yD (tlF s f n 0 y).2.1 : Int) else (if foundF (tlF s f n 0 y).2.1 = true then 1 else 0))
abbrev TW : Type := (Nat → Int) × (Nat → Nat) × (Nat → Nat → Int)
/-- the trays, on both sides -/
def XTs (w : TW) (h : AH) : Prop := ∀ t, t < 4 → XT t (w.1 t) (w.2.1 t) (w.2.2 t) h
def MTs (w : TW) (h : AH) : Prop := ∀ t, t < 4 → MT t (w.1 t) (w.2.1 t) (w.2.2 t) h
def WTs (w : TW) : Prop := ∀ t, t < 4 → WFT (w.1 t) (w.2.1 t) (w.2.2 t)
theorem XTs.fr {I J : Nat → Nat → Prop} {w : TW} {h h' : AH} (C : XTs w h) (e : Fr I J h h') (hi : ∀ a k, 74 ≤ a → a ≤ 81 → ¬ I a k ∧ ¬ J a k) : XTs w h' := fun t ht => (C t ht).fr e (fun k => (hi _ k (by omega) (by omega)).1) (fun k => (hi _ k (by omega) (by omega)).2)
theorem MTs.fr {I J : Nat → Nat → Prop} {w : TW} {h h' : AH} (C : MTs w h) (e : Fr I J h h') (hi : ∀ a k, 103 ≤ a → a ≤ 105 → ¬ I a k ∧ ¬ J a k) : MTs w h' := fun t ht => (C t ht).fr e (fun k => ⟨(hi _ k (by omega) (by omega)).1, (hi _ k (by omega) (by omega)).1⟩) (fun k => (hi _ k (by omega) (by omega)).2)
theorem XT.sz {t : Nat} {so : Int} {n : Nat} {f : Nat → Int} {h : AH} (X : XT t so n f h) (q : so ≠ -1) : ivA h (74 + 2 * t) 2 = kI n := by
  rcases X with ⟨z, _⟩ | ⟨_, _, _, z, _⟩
  · exact absurd z q
  · exact z
theorem X_judge_g {T : Nat → Nat} {s : ST} {p : Nat} {y : DY} {v : Int} {hs : List DY} {nx : Nat} {h : AH} (B : BX T s p y v hs nx h) {w : TW} (X : XTs w h) (W : WTs w) {t c : Int} (t1 : -2147483648 ≤ t) (t2 : t ≤ 2147483647) (c1 : -2147483648 ≤ c) (c2 : c ≤ 2147483647) : GI 9 m_X_judge [.ref 1, .int (kI t), .int (kI c)] h (kI (if (0 ≤ t ∧ t < 4) ∧ (0 ≤ c ∧ c ≤ 3) then judA s y (w.1 t.toNat) (w.2.1 t.toNat) (w.2.2 t.toNat) c else -2)) (Fr (IXd T) JM h) := by
  have F := B.F
  refine GIo (s_X_judge_0 ?_)
  by_cases q : 0 ≤ t ∧ t < 4
  · by_cases q2 : 0 ≤ c ∧ c ≤ 3
    · rw [if_pos ⟨q, q2⟩]
      have p1 : (0 ≤ t ∧ t < 4) = True := eq_true q
      obtain ⟨t, rfl⟩ := Int.eq_ofNat_of_zero_le q.1
      have ht : t < 4 := by omega
      have Tf := tr_fix F ht
      have Xt := X t ht
      have Wt := W t ht
      have z1 : ¬ c < 0 := by omega
      have z2 : c ≤ 3 := q2.2
      simp (disch := omega) only [kd_1 F, rv_1_11 F, kd_73 F, ln_73 F, Tf.1, Tf.2.1, ix_lit, inB_lit, decide_true, Bool.true_or, Bool.or_true, true_and, and_true, kI_add, kI_sub, kI_mul, tn_add, Int.toNat_natCast, Int.reduceToNat, kI_le, kI_lt, kI_inj, decide_eq_true_eq, Bool.not_eq_true', decide_eq_false_iff_not, not_true_eq_false, not_false_eq_true, Classical.not_not, Bool.false_eq_true, if_true, if_false, z0, bI_k0, bI_k1, isB_b, isB_0, isB_1, kI_long, kd_stI, ln_stI, rv_stI, X_isTray_c, p1, z1, z2, Nat.reduceLeDiff, Tr_isMissing_c ht F Wt Xt, rv_1_5 F, rv_1_3 F, kd_12 F]
      unfold judA
      by_cases q3 : w.1 t = -1
      · rw [if_neg (fun w => w q3), if_pos q3]
        exact ⟨rfl, Fr_rfl _ _ _⟩
      · rw [if_pos q3, if_neg q3]
        refine GV.use (Pg_copy_g F PG12 PG8 (by omega) B.P (kI_of _)) (by omega) (fun h1 e1 => ?_)
        have n40 := Wt.2.2.1
        have fin : ∀ (k why : Nat) (y' : DY) (v' : Int) (h3 : AH), Fr (fun a _ => T a = 1 ∨ a = 12 ∨ a = 13) JM h h3 → XP y' v' 12 h3 → WFY s y' → tlF s (w.2.2 t) (w.2.1 t) 0 y = (k, y', why) → why ≤ 3 → Safe 8 m_X_judge (108, [.ref 1, unV, .int (kI c), unV, .int (kI (if why = 0 then -1 else (k : Int))), .int (kI why), unV], [], h3) (fun x h' => Eqv x (some (.int (kI (if c = 0 then (if (tlF s (w.2.2 t) (w.2.1 t) 0 y).2.2 = 0 then -1 else ((tlF s (w.2.2 t) (w.2.1 t) 0 y).1 : Int)) else if c = 1 then ((tlF s (w.2.2 t) (w.2.1 t) 0 y).2.2 : Int) else if c = 2 then (yD (tlF s (w.2.2 t) (w.2.1 t) 0 y).2.1 : Int) else (if foundF (tlF s (w.2.2 t) (w.2.1 t) 0 y).2.1 = true then 1 else 0))))) ∧ Fr (IXd T) JM h h') := by
          intro k why y' v' h3 e3 P3 wy' et wl
          have F3 := e3.fix F
          have f3 : Fr (IXd T) JM h h3 := e3.mono (fun a k w => by rcases w with w | w; exact Or.inl w; exact Or.inr (Or.inl (by omega))) (fun _ _ w => w)
          rw [et]
          refine s_X_judge_108 ?_
          have e : c = 0 ∨ c = 1 ∨ c = 2 ∨ c = 3 := by omega
          rcases e with rfl | rfl | rfl | rfl
          · simp (disch := omega) only [ix_lit, inB_lit, decide_true, Bool.true_or, Bool.or_true, true_and, and_true, kI_add, kI_sub, kI_mul, tn_add, Int.toNat_natCast, Int.reduceToNat, kI_le, kI_lt, kI_inj, decide_eq_true_eq, Bool.not_eq_true', decide_eq_false_iff_not, not_true_eq_false, not_false_eq_true, Classical.not_not, Bool.false_eq_true, if_true, if_false, z0, bI_k0, bI_k1, isB_b, isB_0, isB_1, kI_long, kd_stI, ln_stI, rv_stI]
            exact ⟨rfl, f3⟩
          · simp (disch := omega) only [ix_lit, inB_lit, decide_true, Bool.true_or, Bool.or_true, true_and, and_true, kI_add, kI_sub, kI_mul, tn_add, Int.toNat_natCast, Int.reduceToNat, kI_le, kI_lt, kI_inj, decide_eq_true_eq, Bool.not_eq_true', decide_eq_false_iff_not, not_true_eq_false, not_false_eq_true, Classical.not_not, Bool.false_eq_true, if_true, if_false, z0, bI_k0, bI_k1, isB_b, isB_0, isB_1, kI_long, kd_stI, ln_stI, rv_stI, Int.reduceEq]
            exact ⟨rfl, f3⟩
          · simp (disch := omega) only [ix_lit, inB_lit, decide_true, Bool.true_or, Bool.or_true, true_and, and_true, kI_add, kI_sub, kI_mul, tn_add, Int.toNat_natCast, Int.reduceToNat, kI_le, kI_lt, kI_inj, decide_eq_true_eq, Bool.not_eq_true', decide_eq_false_iff_not, not_true_eq_false, not_false_eq_true, Classical.not_not, Bool.false_eq_true, if_true, if_false, z0, bI_k0, bI_k1, isB_b, isB_0, isB_1, kI_long, kd_stI, ln_stI, rv_stI, Int.reduceEq, kd_1 F3, rv_1_5 F3, kd_12 F3, P3.i0]
            exact ⟨rfl, f3⟩
          · simp (disch := omega) only [ix_lit, inB_lit, decide_true, Bool.true_or, Bool.or_true, true_and, and_true, kI_add, kI_sub, kI_mul, tn_add, Int.toNat_natCast, Int.reduceToNat, kI_le, kI_lt, kI_inj, decide_eq_true_eq, Bool.not_eq_true', decide_eq_false_iff_not, not_true_eq_false, not_false_eq_true, Classical.not_not, Bool.false_eq_true, if_true, if_false, z0, bI_k0, bI_k1, isB_b, isB_0, isB_1, kI_long, kd_stI, ln_stI, rv_stI, Int.reduceEq, kd_1 F3, rv_1_5 F3, kd_12 F3, Pg_isFound_c F3 PG12 P3 B.S.wf wy']
            by_cases z : foundF y' = true
            · rw [if_neg (fun w => w z), if_pos z]
              exact ⟨rfl, f3⟩
            · rw [if_pos z, if_neg z]
              exact ⟨rfl, f3⟩
        suffices H : ∀ (m i : Nat) (y' : DY) (v' : Int) (h2 : AH), i + m = w.2.1 t → Fr (fun a _ => T a = 1 ∨ a = 12 ∨ a = 13) JM h h2 → XP y' v' 12 h2 → WFY s y' → tlF s (w.2.2 t) (w.2.1 t) 0 y = tlF s (w.2.2 t) m i y' → Safe 8 m_X_judge (56, [.ref 1, unV, .int (kI c), .ref (74 + 2 * t), .int (kI (-1)), .int (kI 0), .int (kI i)], [], h2) (fun x h' => Eqv x (some (.int (kI (if c = 0 then (if (tlF s (w.2.2 t) (w.2.1 t) 0 y).2.2 = 0 then -1 else ((tlF s (w.2.2 t) (w.2.1 t) 0 y).1 : Int)) else if c = 1 then ((tlF s (w.2.2 t) (w.2.1 t) 0 y).2.2 : Int) else if c = 2 then (yD (tlF s (w.2.2 t) (w.2.1 t) 0 y).2.1 : Int) else (if foundF (tlF s (w.2.2 t) (w.2.1 t) 0 y).2.1 = true then 1 else 0))))) ∧ Fr (IXd T) JM h h') by
          exact H _ 0 y _ h1 (by omega) (e1.1.mono (fun a k w => Or.inr (by omega)) (fun _ _ w => w)) e1.2 B.wy rfl
        intro m
        induction m with
        | zero =>
          intro i y' v' h2 hi e2 P2 wy' et
          have B2 := B.scr e2 (fun a k w => by rcases w with w | w; exact Or.inl w; exact Or.inr (Or.inl (by omega)))
          have tw := fun a h1 h2 => B.t.two (a := a) h1 h2
          have X2 := X.fr e2 (fun a k h1 h2 => ⟨fun w => by have := tw a (by omega) (by omega); omega, fun w => w⟩) t ht
          have Tf2 := tr_fix B2.F ht
          refine s_X_judge_56 ?_
          simp (disch := omega) only [Tf2.2.1, X2.sz q3, ix_lit, inB_lit, decide_true, Bool.true_or, Bool.or_true, true_and, and_true, kI_add, kI_sub, kI_mul, tn_add, Int.toNat_natCast, Int.reduceToNat, kI_le, kI_lt, kI_inj, decide_eq_true_eq, Bool.not_eq_true', decide_eq_false_iff_not, not_true_eq_false, not_false_eq_true, Classical.not_not, Bool.false_eq_true, if_true, if_false, z0, bI_k0, bI_k1, isB_b, isB_0, isB_1, kI_long, kd_stI, ln_stI, rv_stI]
          rw [if_pos (by omega)]
          have := fin i 0 y' v' h2 e2 P2 wy' et (by omega)
          exact this
        | succ m ih =>
          intro i y' v' h2 hi e2 P2 wy' et
          have B2 := B.scr e2 (fun a k w => by rcases w with w | w; exact Or.inl w; exact Or.inr (Or.inl (by omega)))
          have tw := fun a h1 h2 => B.t.two (a := a) h1 h2
          have X2 := X.fr e2 (fun a k h1 h2 => ⟨fun w => by have := tw a (by omega) (by omega); omega, fun w => w⟩) t ht
          have F2 := B2.F
          have Tf2 := tr_fix F2 ht
          refine s_X_judge_56 ?_
          simp (disch := omega) only [Tf2.2.1, X2.sz q3, kd_1 F2, rv_1_5 F2, kd_12 F2, B2.r, ix_lit, inB_lit, decide_true, Bool.true_or, Bool.or_true, true_and, and_true, kI_add, kI_sub, kI_mul, tn_add, Int.toNat_natCast, Int.reduceToNat, kI_le, kI_lt, kI_inj, decide_eq_true_eq, Bool.not_eq_true', decide_eq_false_iff_not, not_true_eq_false, not_false_eq_true, Classical.not_not, Bool.false_eq_true, if_true, if_false, z0, bI_k0, bI_k1, isB_b, isB_0, isB_1, kI_long, kd_stI, ln_stI, rv_stI, Tr_at_c ht F2 Wt X2 q3]
          rw [if_neg (by omega)]
          have fb := Wt.2.2.2 i
          refine GI.use (Pg_obey_g F2 B2.S PG12 P2 B2.t wy' fb.1 fb.2) (by omega) (fun h3 e3 => ?_)
          have wl := whyD_le s y' (w.2.2 t i)
          have f3 : Fr (fun a _ => T a = 1 ∨ a = 12 ∨ a = 13) JM h h3 := e2.trans e3.1
          have et' : tlF s (w.2.2 t) (m + 1) i y' = if whyD s y' (w.2.2 t i) = 0 then tlF s (w.2.2 t) m (i + 1) (dD y' (w.2.2 t i)) else (i, y', whyD s y' (w.2.2 t i)) := rfl
          rw [et'] at et
          simp (disch := omega) only [ix_lit, inB_lit, decide_true, Bool.true_or, Bool.or_true, true_and, and_true, kI_add, kI_sub, kI_mul, tn_add, Int.toNat_natCast, Int.reduceToNat, kI_le, kI_lt, kI_inj, decide_eq_true_eq, Bool.not_eq_true', decide_eq_false_iff_not, not_true_eq_false, not_false_eq_true, Classical.not_not, Bool.false_eq_true, if_true, if_false, z0, bI_k0, bI_k1, isB_b, isB_0, isB_1, kI_long, kd_stI, ln_stI, rv_stI]
          by_cases z : whyD s y' (w.2.2 t i) = 0
          · rw [if_pos z] at et
            rw [if_neg (by omega)]
            have := ih (i + 1) _ _ h3 (by omega) f3 (e3.2.1 z) (wy'.ofD z) et
            rw [z]
            exact this
          · rw [if_neg z] at et
            rw [if_pos (by omega)]
            have X3 := X.fr f3 (fun a k h1 h2 => ⟨fun w => by have := tw a (by omega) (by omega); omega, fun w => w⟩) t ht
            have Tf3 := tr_fix (f3.fix F) ht
            have := fin i _ y' _ h3 f3 (e3.2.2 z) wy' et wl
            rw [if_neg z] at this
            refine s_X_judge_56 ?_
            have z' : ¬ (whyD s y' (w.2.2 t i) : Int) = 0 := by omega
            simp (disch := omega) only [Tf3.2.1, X3.sz q3, ix_lit, inB_lit, decide_true, Bool.true_or, Bool.or_true, true_and, and_true, kI_add, kI_sub, kI_mul, tn_add, Int.toNat_natCast, Int.reduceToNat, kI_le, kI_lt, kI_inj, decide_eq_true_eq, Bool.not_eq_true', decide_eq_false_iff_not, not_true_eq_false, not_false_eq_true, Classical.not_not, Bool.false_eq_true, if_true, if_false, z0, bI_k0, bI_k1, isB_b, isB_0, isB_1, kI_long, kd_stI, ln_stI, rv_stI, z']
            split
            · exact this
            · exact this
    · rw [if_neg (fun w => q2 w.2)]
      have p1 : (0 ≤ t ∧ t < 4) = True := eq_true q
      by_cases z1 : c < 0
      · simp (disch := omega) only [ix_lit, inB_lit, decide_true, Bool.true_or, Bool.or_true, true_and, and_true, kI_add, kI_sub, kI_mul, tn_add, Int.toNat_natCast, Int.reduceToNat, kI_le, kI_lt, kI_inj, decide_eq_true_eq, Bool.not_eq_true', decide_eq_false_iff_not, not_true_eq_false, not_false_eq_true, Classical.not_not, Bool.false_eq_true, if_true, if_false, z0, bI_k0, bI_k1, isB_b, isB_0, isB_1, kI_long, kd_stI, ln_stI, rv_stI, X_isTray_c, p1, z1]
        exact ⟨rfl, Fr_rfl _ _ _⟩
      · have z2 : ¬ c ≤ 3 := by omega
        simp (disch := omega) only [ix_lit, inB_lit, decide_true, Bool.true_or, Bool.or_true, true_and, and_true, kI_add, kI_sub, kI_mul, tn_add, Int.toNat_natCast, Int.reduceToNat, kI_le, kI_lt, kI_inj, decide_eq_true_eq, Bool.not_eq_true', decide_eq_false_iff_not, not_true_eq_false, not_false_eq_true, Classical.not_not, Bool.false_eq_true, if_true, if_false, z0, bI_k0, bI_k1, isB_b, isB_0, isB_1, kI_long, kd_stI, ln_stI, rv_stI, X_isTray_c, p1, z1, z2]
        exact ⟨rfl, Fr_rfl _ _ _⟩
  · rw [if_neg (fun w => q w.1)]
    simp (disch := omega) only [ix_lit, inB_lit, decide_true, Bool.true_or, Bool.or_true, true_and, and_true, kI_add, kI_sub, kI_mul, tn_add, Int.toNat_natCast, Int.reduceToNat, kI_le, kI_lt, kI_inj, decide_eq_true_eq, Bool.not_eq_true', decide_eq_false_iff_not, not_true_eq_false, not_false_eq_true, Classical.not_not, Bool.false_eq_true, if_true, if_false, z0, bI_k0, bI_k1, isB_b, isB_0, isB_1, kI_long, kd_stI, ln_stI, rv_stI, X_isTray_c, eq_false q]
    exact ⟨rfl, Fr_rfl _ _ _⟩
/-- the class keeps what was before, if any was done -/
def keepF (k : Nat) (y : DY) (hs : List DY) : List DY := if k = 0 then hs else (y :: hs).take 10
theorem X_keptIfAny_g {T : Nat → Nat} {s : ST} {p : Nat} {y z : DY} {v v2 : Int} {hs : List DY} {nx : Nat} {h : AH} (B : BX T s p y v hs nx h) (Z : XP z v2 10 h) (wz : WFY s z) {k : Nat} (hk : k ≤ 1000) : GI 3 m_X_keptIfAny [.ref 1, .int (kI k)] h (kI k) (fun h' => Fr IH JM h h' ∧ ∃ nx', BX T s p y v (keepF k z hs) nx' h') := by
  have F := B.F
  refine GIo (s_X_keptIfAny_0 ?_)
  simp (disch := omega) only [kd_1 F, rv_1_6 F, rv_1_4 F, kd_14 F, ix_lit, inB_lit, decide_true, Bool.true_or, Bool.or_true, true_and, and_true, kI_add, kI_sub, kI_mul, tn_add, Int.toNat_natCast, Int.reduceToNat, kI_le, kI_lt, kI_inj, decide_eq_true_eq, Bool.not_eq_true', decide_eq_false_iff_not, not_true_eq_false, not_false_eq_true, Classical.not_not, Bool.false_eq_true, if_true, if_false, z0, bI_k0, bI_k1, isB_b, isB_0, isB_1, kI_long, kd_stI, ln_stI, rv_stI]
  unfold keepF
  by_cases q : k = 0
  · rw [if_pos (by omega), if_pos q]
    exact ⟨rfl, Fr_rfl _ _ _, _, B⟩
  · rw [if_neg (by omega), if_neg q]
    refine GV.use (Hi_keep_g F B.H PG10 (by omega) Z) (by omega) (fun h1 e1 => ?_)
    exact ⟨rfl, e1.1, _, B.hist e1.1 e1.2 (wh_take wz B.wh)⟩
/-- what perform and night leave on the class's side -/
def OutP (T : Nat → Nat) (s : ST) (p : Nat) (y y' : DY) (v : Int) (hs : List DY) (k : Nat) (h h' : AH) : Prop := Fr (IXd T) JM h h' ∧ ∃ nx', BX T s p y' (v + k) (keepF k y hs) nx' h'
theorem IXd_page {T : Nat → Nat} {h h' : AH} (e : FP T 8 h h') : Fr (IXd T) JM h h' := e.mono (fun a k w => by rcases w with w | w; exact Or.inl w; exact Or.inr (Or.inl (by omega))) (fun _ _ w => w)
theorem IXd_hist {T : Nat → Nat} {h h' : AH} (e : Fr IH JM h h') : Fr (IXd T) JM h h' := e.mono (fun a k w => Or.inr (Or.inr w)) (fun _ _ w => w)
theorem X_perform_g {T : Nat → Nat} {s : ST} {p : Nat} {y : DY} {v : Int} {hs : List DY} {nx : Nat} {h : AH} (B : BX T s p y v hs nx h) {w : TW} (X : XTs w h) (W : WTs w) {t : Nat} (ht : t < 4) (q3 : w.1 t ≠ -1) : GI 9 m_X_perform [.ref 1, .int (kI t)] h (kI ((tlF s (w.2.2 t) (w.2.1 t) 0 y).1 : Nat)) (OutP T s p y (tlF s (w.2.2 t) (w.2.1 t) 0 y).2.1 v hs (tlF s (w.2.2 t) (w.2.1 t) 0 y).1 h) := by
  have F := B.F
  have Tf := tr_fix F ht
  have Xt := X t ht
  have Wt := W t ht
  have n40 := Wt.2.2.1
  refine GIo (s_X_perform_0 ?_)
  have p1 : (0 ≤ (t : Int) ∧ (t : Int) < 4) = True := eq_true (by omega)
  simp (disch := omega) only [kd_1 F, rv_1_11 F, kd_73 F, ln_73 F, Tf.1, Tf.2.1, ix_lit, inB_lit, decide_true, Bool.true_or, Bool.or_true, true_and, and_true, kI_add, kI_sub, kI_mul, tn_add, Int.toNat_natCast, Int.reduceToNat, kI_le, kI_lt, kI_inj, decide_eq_true_eq, Bool.not_eq_true', decide_eq_false_iff_not, not_true_eq_false, not_false_eq_true, Classical.not_not, Bool.false_eq_true, if_true, if_false, z0, bI_k0, bI_k1, isB_b, isB_0, isB_1, kI_long, kd_stI, ln_stI, rv_stI, X_isTray_c, p1, Nat.reduceLeDiff, Tr_isMissing_c ht F Wt Xt, q3, rv_1_4 F, rv_1_3 F, kd_10 F]
  refine X_copy B (by omega) (fun h1 v2 e1 B1 Z1 => ?_)
  have fin : ∀ (k : Nat) (y' : DY) (nx' : Nat) (h2 : AH), Fr (IXd T) JM h h2 → BX T s p y' (v + k) hs nx' h2 → XP y v2 10 h2 → k ≤ 40 → (tlF s (w.2.2 t) (w.2.1 t) 0 y).1 = k → (tlF s (w.2.2 t) (w.2.1 t) 0 y).2.1 = y' → Safe 8 m_X_perform (81, [.ref 1, unV, unV, .int (kI k), unV], [], h2) (fun x h' => Eqv x (some (.int (kI ((tlF s (w.2.2 t) (w.2.1 t) 0 y).1 : Nat)))) ∧ OutP T s p y (tlF s (w.2.2 t) (w.2.1 t) 0 y).2.1 v hs (tlF s (w.2.2 t) (w.2.1 t) 0 y).1 h h') := by
    intro k y' nx' h2 f2 B2 Z2 hk ek ey
    rw [ek, ey]
    refine s_X_perform_81 ?_
    refine ⟨by rw [kd_1 B2.F]; rfl, ?_⟩
    exact GI.use (X_keptIfAny_g B2 Z2 B.wy (by omega)) (by omega) (fun h3 e3 => ⟨rfl, f2.trans (IXd_hist e3.1), e3.2⟩)
  suffices H : ∀ (m i : Nat) (y' : DY) (h2 : AH), i + m = w.2.1 t → Fr (IXd T) JM h h2 → BX T s p y' (v + i) hs nx h2 → XP y v2 10 h2 → tlF s (w.2.2 t) (w.2.1 t) 0 y = tlF s (w.2.2 t) m i y' → Safe 8 m_X_perform (43, [.ref 1, unV, .ref (74 + 2 * t), .int (kI i), .int (kI i)], [], h2) (fun x h' => Eqv x (some (.int (kI ((tlF s (w.2.2 t) (w.2.1 t) 0 y).1 : Nat)))) ∧ OutP T s p y (tlF s (w.2.2 t) (w.2.1 t) 0 y).2.1 v hs (tlF s (w.2.2 t) (w.2.1 t) 0 y).1 h h') by
    have := H _ 0 y h1 (by omega) (e1.mono (fun a k w => Or.inr (Or.inl (by omega))) (fun _ _ w => w)) (by rw [show v + ((0 : Nat) : Int) = v by omega]; exact B1) Z1 rfl
    exact this
  have tw := fun a h1 h2 => B.t.two (a := a) h1 h2
  have Xn : ∀ h2, Fr (IXd T) JM h h2 → XT t (w.1 t) (w.2.1 t) (w.2.2 t) h2 := fun h2 e2 => X.fr e2 (fun a k h1 h2 => ⟨fun w => by have := tw a (by omega) (by omega); unfold IXd IH at w; omega, fun w => w⟩) t ht
  intro m
  induction m with
  | zero =>
    intro i y' h2 hi e2 B2 Z2 et
    have X2 := Xn h2 e2
    have Tf2 := tr_fix B2.F ht
    refine s_X_perform_43 ?_
    simp (disch := omega) only [Tf2.2.1, X2.sz q3, ix_lit, inB_lit, decide_true, Bool.true_or, Bool.or_true, true_and, and_true, kI_add, kI_sub, kI_mul, tn_add, Int.toNat_natCast, Int.reduceToNat, kI_le, kI_lt, kI_inj, decide_eq_true_eq, Bool.not_eq_true', decide_eq_false_iff_not, not_true_eq_false, not_false_eq_true, Classical.not_not, Bool.false_eq_true, if_true, if_false, z0, bI_k0, bI_k1, isB_b, isB_0, isB_1, kI_long, kd_stI, ln_stI, rv_stI]
    rw [if_pos (by omega)]
    exact fin i y' nx h2 e2 B2 Z2 (by omega) (by rw [et]; rfl) (by rw [et]; rfl)
  | succ m ih =>
    intro i y' h2 hi e2 B2 Z2 et
    have X2 := Xn h2 e2
    have F2 := B2.F
    have Tf2 := tr_fix F2 ht
    refine s_X_perform_43 ?_
    simp (disch := omega) only [Tf2.2.1, X2.sz q3, kd_1 F2, rv_1_3 F2, kd_8 F2, B2.r, ix_lit, inB_lit, decide_true, Bool.true_or, Bool.or_true, true_and, and_true, kI_add, kI_sub, kI_mul, tn_add, Int.toNat_natCast, Int.reduceToNat, kI_le, kI_lt, kI_inj, decide_eq_true_eq, Bool.not_eq_true', decide_eq_false_iff_not, not_true_eq_false, not_false_eq_true, Classical.not_not, Bool.false_eq_true, if_true, if_false, z0, bI_k0, bI_k1, isB_b, isB_0, isB_1, kI_long, kd_stI, ln_stI, rv_stI, Tr_at_c ht F2 Wt X2 q3]
    rw [if_neg (by omega)]
    have fb := Wt.2.2.2 i
    refine GI.use (Pg_obey_g F2 B2.S PG8 B2.P B2.t B2.wy fb.1 fb.2) (by omega) (fun h3 e3 => ?_)
    have wl := whyD_le s y' (w.2.2 t i)
    have f3 := e2.trans (IXd_page e3.1)
    have Z3 := Z2.fp B.t PG10 PG8 (by omega) e3.1
    have et' : tlF s (w.2.2 t) (m + 1) i y' = if whyD s y' (w.2.2 t i) = 0 then tlF s (w.2.2 t) m (i + 1) (dD y' (w.2.2 t i)) else (i, y', whyD s y' (w.2.2 t i)) := rfl
    rw [et'] at et
    simp (disch := omega) only [ix_lit, inB_lit, decide_true, Bool.true_or, Bool.or_true, true_and, and_true, kI_add, kI_sub, kI_mul, tn_add, Int.toNat_natCast, Int.reduceToNat, kI_le, kI_lt, kI_inj, decide_eq_true_eq, Bool.not_eq_true', decide_eq_false_iff_not, not_true_eq_false, not_false_eq_true, Classical.not_not, Bool.false_eq_true, if_true, if_false, z0, bI_k0, bI_k1, isB_b, isB_0, isB_1, kI_long, kd_stI, ln_stI, rv_stI]
    by_cases z : whyD s y' (w.2.2 t i) = 0
    · rw [if_pos z] at et
      rw [if_neg (by omega)]
      have B3 := B2.page e3.1 (B2.wy.ofD z) (e3.2.1 z)
      have := ih (i + 1) _ h3 (by omega) f3 (by rw [show v + ((i + 1 : Nat) : Int) = v + i + 1 by omega]; exact B3) Z3 et
      exact this
    · rw [if_neg z] at et
      rw [if_pos (by omega)]
      have B3 := B2.page e3.1 B2.wy (e3.2.2 z)
      exact fin i y' nx h3 f3 B3 Z3 (by omega) (by rw [et]) (by rw [et])
