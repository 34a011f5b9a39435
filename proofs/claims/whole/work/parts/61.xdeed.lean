/-! the class's deeds on a page, and its history -/
abbrev FZ (pg : Nat) (h h' : AH) : Prop := Fr (fun a _ => a = pg ∨ a = pg + 1) JM h h'
theorem FZ.fp {T : Nat → Nat} {pg : Nat} {h h' : AH} (e : FZ pg h h') : FP T pg h h' := e.mono (fun _ _ w => Or.inr w) (fun _ _ w => w)
theorem PG.b {pg : Nat} (g : PG pg) : 8 ≤ pg ∧ pg ≤ 86 ∧ pg % 2 = 0 := by unfold PG at g; omega
theorem Pg_copy_g {y : DY} {v v2 : Int} {pg pg' : Nat} {h : AH} (F : Fix h) (g : PG pg) (g' : PG pg') (n : pg ≠ pg') (C : XP y v pg' h) (hv : ivA h pg 3 = kI v2) : GV 1 m_Pg_copy [.ref pg, .ref pg'] h (fun h' => FZ pg h h' ∧ XP y (v2 + 1) pg h') := by
  have b1 := g.b
  have b2 := g'.b
  have n1 : ¬ pg' = pg := fun e => n e.symm
  refine GVo (s_Pg_copy_0 ?_)
  simp (disch := omega) only [pg_k F g, pg_k F g', kd_stI, decide_true, true_and, iv_stI, n1, false_and, if_false, C.i0, C.i1, C.i2]
  suffices H : ∀ k, k ≤ 4 → ∀ h1, FZ pg h h1 → ivA h1 pg 0 = kI (yD y) → ivA h1 pg 1 = kI (lx (yL y)) → ivA h1 pg 2 = kI (yX y) → ivA h1 pg 3 = kI v2 → (∀ j, j < k → ivA h1 (pg + 1) j = kI (yB y j)) → Safe 0 m_Pg_copy (26, [.ref pg, .ref pg', .int (kI k)], [], h1) (fun v k => Eqv v none ∧ FZ pg h k ∧ XP y (v2 + 1) pg k) by
    refine H 0 (by omega) _ ((((Fr_rfl _ _ _).stI (Or.inl rfl) _).stI (Or.inl rfl) _).stI (Or.inl rfl) _) ?_ ?_ ?_ ?_ (fun j hj => by omega)
    · simp [iv_stI]
    · simp [iv_stI]
    · simp [iv_stI]
    · simp [iv_stI, hv]
  refine down_ind 4 ?_ ?_
  · intro h1 e1 i0 i1 i2 i3 ib
    have F1 := e1.fix F
    refine s_Pg_copy_26 ?_
    simp (disch := omega) only [pg_k F1 g, pg_r F1 g, pg_ka F1 g, pg_la F1 g, isA, ix_lit, inB_lit, decide_true, Bool.true_or, Bool.or_true, true_and, and_true, kI_add, kI_sub, kI_mul, tn_add, Int.toNat_natCast, Int.reduceToNat, kI_le, kI_lt, kI_inj, decide_eq_true_eq, Bool.not_eq_true', decide_eq_false_iff_not, not_true_eq_false, not_false_eq_true, Classical.not_not, Bool.false_eq_true, if_true, if_false, z0, bI_k0, bI_k1, isB_b, isB_0, isB_1, kI_long, kd_stI, ln_stI, rv_stI, Nat.reduceLeDiff, Bool.and_true, Int.cast_ofNat_Int, Int.le_refl, i3]
    refine ⟨rfl, e1.stI (Or.inl rfl) _, ?_, ?_, ?_, ?_, ?_⟩
    · rw [iv_stI, if_neg (by omega)]; exact i0
    · rw [iv_stI, if_neg (by omega)]; exact i1
    · rw [iv_stI, if_neg (by omega)]; exact i2
    · rw [iv_stI, if_pos ⟨rfl, rfl⟩]
    · intro k hk
      rw [iv_stI, if_neg (by omega)]
      exact ib k hk
  · intro k hk ih h1 e1 i0 i1 i2 i3 ib
    have F1 := e1.fix F
    have C1 := C.fr e1 (fun k => ⟨by omega, by omega⟩)
    refine s_Pg_copy_26 ?_
    simp (disch := omega) only [pg_k F1 g, pg_r F1 g, pg_ka F1 g, pg_la F1 g, pg_k F1 g', pg_r F1 g', pg_ka F1 g', pg_la F1 g', isA, ix_lit, inB_lit, decide_true, Bool.true_or, Bool.or_true, true_and, and_true, kI_add, kI_sub, kI_mul, tn_add, Int.toNat_natCast, Int.reduceToNat, kI_le, kI_lt, kI_inj, decide_eq_true_eq, Bool.not_eq_true', decide_eq_false_iff_not, not_true_eq_false, not_false_eq_true, Classical.not_not, Bool.false_eq_true, if_true, if_false, z0, bI_k0, bI_k1, isB_b, isB_0, isB_1, kI_long, kd_stI, ln_stI, rv_stI, Nat.reduceLeDiff, Bool.and_true, Int.cast_ofNat_Int, C1.b]
    rw [if_neg (by omega)]
    have := ih (stI h1 (pg + 1) k (kI (yB y k))) (e1.stI (Or.inr rfl) _) ?_ ?_ ?_ ?_ ?_
    · exact this
    · rw [iv_stI, if_neg (by omega)]; exact i0
    · rw [iv_stI, if_neg (by omega)]; exact i1
    · rw [iv_stI, if_neg (by omega)]; exact i2
    · rw [iv_stI, if_neg (by omega)]; exact i3
    · intro j hj
      rw [iv_stI]
      by_cases q : j = k
      · rw [if_pos ⟨rfl, q⟩, q]
      · rw [if_neg (fun w => q w.2)]
        exact ib j (by omega)
theorem lx_lt {c : Nat} (h : c < 12) : lx c = c := by unfold lx; rw [if_neg (by omega)]
theorem Pg_mark_g {y : DY} {v : Int} {pg c : Nat} {h : AH} (F : Fix h) (g : PG pg) (C : XP y v pg h) (hc : c < 12) : GV 1 m_Pg_mark [.ref pg, .int (kI c)] h (fun h' => FZ pg h h' ∧ XP (dDraw y c) (v + 1) pg h') := by
  refine GVo (s_Pg_mark_0 ?_)
  simp (disch := omega) only [pg_k F g, ix_lit, inB_lit, decide_true, Bool.true_or, Bool.or_true, true_and, and_true, kI_add, kI_sub, kI_mul, tn_add, Int.toNat_natCast, Int.reduceToNat, kI_le, kI_lt, kI_inj, decide_eq_true_eq, Bool.not_eq_true', decide_eq_false_iff_not, not_true_eq_false, not_false_eq_true, Classical.not_not, Bool.false_eq_true, if_true, if_false, z0, bI_k0, bI_k1, isB_b, isB_0, isB_1, kI_long, kd_stI, ln_stI, rv_stI, C.i0, kI_shl1, kI_or]
  refine ⟨rfl, (((Fr_rfl _ _ _).stI (Or.inl rfl) _).stI (Or.inl rfl) _).stI (Or.inl rfl) _, ?_, ?_, ?_, ?_, ?_⟩
  · simp [iv_stI]; rfl
  · simp [iv_stI]
    show kI c = kI (lx c)
    rw [lx_lt hc]
  · simp [iv_stI]
    exact C.i2
  · simp [iv_stI, C.i3, kI_add]
  · intro k hk
    simp [iv_stI]
    exact C.b k hk
theorem whyS_0 {s : ST} {y : DY} {a c : Int} (w : whyS s y a c = 0) : (0 ≤ a ∧ a < sH s) ∧ (0 ≤ c ∧ c < sN s) := by
  unfold whyS at w
  by_cases q : (0 ≤ a ∧ a < sH s) ∧ (0 ≤ c ∧ c < sN s)
  · exact q
  · rw [if_neg q] at w
    omega
theorem whyR_0 {s : ST} {y : DY} {c : Int} (w : whyR s y c = 0) : 0 ≤ c ∧ c < sN s := by
  unfold whyR at w
  by_cases q : 0 ≤ c ∧ c < sN s
  · exact q
  · rw [if_neg q] at w
    omega
theorem whyH_0 {s : ST} {y : DY} {c : Int} (w : whyH s y c = 0) : 0 ≤ c ∧ c < sN s := by
  unfold whyH at w
  by_cases q : 0 ≤ c ∧ c < sN s
  · exact q
  · rw [if_neg q] at w
    omega
theorem whyB_0 {s : ST} {a n : Int} (w : whyB s a n = 0) : (0 ≤ a ∧ a < sH s) ∧ (0 ≤ n ∧ n < 10) := by
  unfold whyB at w
  by_cases q : (0 ≤ a ∧ a < sH s) ∧ (0 ≤ n ∧ n < 10)
  · exact q
  · rw [if_neg q] at w
    omega
theorem whyS_le (s : ST) (y : DY) (a c : Int) : whyS s y a c ≤ 3 := by
  unfold whyS
  split
  · split
    · omega
    · split <;> omega
  · omega
theorem whyR_le (s : ST) (y : DY) (c : Int) : whyR s y c ≤ 2 := by
  unfold whyR
  split
  · split <;> omega
  · omega
theorem whyH_le (s : ST) (y : DY) (c : Int) : whyH s y c ≤ 2 := by
  unfold whyH
  split
  · split <;> omega
  · omega
theorem whyB_le (s : ST) (a c : Int) : whyB s a c ≤ 1 := by
  unfold whyB
  split <;> omega
/-- what a deed leaves on a page -/
def PostD (T : Nat → Nat) (y y' : DY) (v : Int) (pg why : Nat) (h h' : AH) : Prop := FP T pg h h' ∧ (why = 0 → XP y' (v + 1) pg h') ∧ (why ≠ 0 → XP y v pg h')
theorem Pg_draw_g {T : Nat → Nat} {s : ST} {y : DY} {v : Int} {p pg : Nat} {h : AH} (F : Fix h) (S : XS T s p h) (g : PG pg) (C : XP y v pg h) (t : TF T) (wy : WFY s y) {a c : Int} (a1 : -2147483648 ≤ a) (a2 : a ≤ 2147483647) (c1 : -2147483648 ≤ c) (c2 : c ≤ 2147483647) : GI 6 m_Pg_draw [.ref pg, .ref p, .int (kI a), .int (kI c)] h (kI (whyS s y a c)) (PostD T y (dDraw y c.toNat) v pg (whyS s y a c) h) := by
  have n2 := S.wf.n12
  have wl := whyS_le s y a c
  refine GIo (s_Pg_draw_0 ?_)
  simp only [pg_k F g, decide_true, true_and]
  refine GI.use (Pg_why_g F S g C t wy a1 a2 c1 c2) (by omega) (fun h1 e1 => ?_)
  have F1 := e1.fix F
  have C1 := C.fg t g e1
  simp (disch := omega) only [ix_lit, inB_lit, decide_true, Bool.true_or, Bool.or_true, true_and, and_true, kI_add, kI_sub, kI_mul, tn_add, Int.toNat_natCast, Int.reduceToNat, kI_le, kI_lt, kI_inj, decide_eq_true_eq, Bool.not_eq_true', decide_eq_false_iff_not, not_true_eq_false, not_false_eq_true, Classical.not_not, Bool.false_eq_true, if_true, if_false, z0, bI_k0, bI_k1, isB_b, isB_0, isB_1, kI_long, kd_stI, ln_stI, rv_stI]
  by_cases q : whyS s y a c = 0
  · rw [if_neg (by omega)]
    have z := whyS_0 q
    obtain ⟨c, rfl⟩ := Int.eq_ofNat_of_zero_le z.2.1
    refine ⟨pg_k F1 g, ?_⟩
    refine GV.use (Pg_mark_g F1 g C1 (c := c) (by omega)) (by omega) (fun h2 e2 => ?_)
    exact ⟨rfl, (e1.fp pg).trans e2.1.fp, fun _ => e2.2, fun w => absurd q w⟩
  · rw [if_pos (by omega)]
    exact ⟨rfl, e1.fp pg, fun w => absurd w q, fun _ => C1⟩
theorem Pg_erase_g {T : Nat → Nat} {s : ST} {y : DY} {v : Int} {p pg : Nat} {h : AH} (F : Fix h) (S : XS T s p h) (g : PG pg) (C : XP y v pg h) (wy : WFY s y) {c : Int} (c1 : -2147483648 ≤ c) (c2 : c ≤ 2147483647) : GI 3 m_Pg_erase [.ref pg, .ref p, .int (kI c)] h (kI (whyR s y c)) (PostD T y (dRub y c.toNat) v pg (whyR s y c) h) := by
  have n2 := S.wf.n12
  have hm := wy.m12 S.wf
  have hl := wy.l12 S.wf
  have ng : ∀ w, w ≠ 0 → PostD T y (dRub y c.toNat) v pg w h h := fun w q => ⟨Fr_rfl _ _ _, fun z => absurd z q, fun _ => C⟩
  refine GIo (s_Pg_erase_0 ?_)
  unfold whyR
  by_cases qc : 0 ≤ c ∧ c < sN s
  · rw [if_pos qc]
    obtain ⟨c, rfl⟩ := Int.eq_ofNat_of_zero_le qc.1
    simp (disch := omega) only [S.k, pg_k F g, ix_lit, inB_lit, decide_true, Bool.true_or, Bool.or_true, true_and, and_true, kI_add, kI_sub, kI_mul, tn_add, Int.toNat_natCast, Int.reduceToNat, kI_le, kI_lt, kI_inj, decide_eq_true_eq, Bool.not_eq_true', decide_eq_false_iff_not, not_true_eq_false, not_false_eq_true, Classical.not_not, Bool.false_eq_true, if_true, if_false, z0, bI_k0, bI_k1, isB_b, isB_0, isB_1, kI_long, kd_stI, ln_stI, rv_stI, Sh_hasCell_c S, qc, Pg_isFound_c F g C S.wf wy, Pg_isDrawn_c F g C hm, C.i0, kI_shl1, kI_dif, iv_stI, Nat.reduceEqDiff, and_false, C.i1]
    by_cases q1 : foundF y = true
    · rw [if_pos q1, if_pos (Or.inl q1)]
      exact ⟨rfl, ng 2 (by omega)⟩
    · rw [if_neg q1]
      by_cases q2 : (yD y).testBit c = true
      · rw [if_pos q2, if_neg (show ¬ (foundF y = true ∨ ¬ (yD y).testBit c = true) from fun w => w.elim q1 (fun w => w q2))]
        have fin : ∀ l : Nat, l = (if yL y = c then 12 else yL y) → Safe 2 m_Pg_erase (58, [.ref pg, unV, unV], [.int (kI (lx l)), .ref pg], stI h pg 0 (kI (dif (yD y) (2 ^ c) : Nat))) (fun x k => Eqv x (some (.int (kI ((0 : Nat) : Int)))) ∧ PostD T y (dRub y ((c : Int)).toNat) v pg 0 h k) := by
          intro l el
          refine s_Pg_erase_58 ?_
          simp (disch := omega) only [pg_k F g, kd_stI, decide_true, true_and, iv_stI, Nat.reduceEqDiff, and_false, if_false, C.i3, kI_add]
          refine ⟨rfl, (((Fr_rfl _ _ _).stI (Or.inr (Or.inl rfl)) _).stI (Or.inr (Or.inl rfl)) _).stI (Or.inr (Or.inl rfl)) _, fun _ => ⟨?_, ?_, ?_, ?_, ?_⟩, fun w => absurd rfl w⟩
          · simp [iv_stI]; rfl
          · simp [iv_stI]
            rw [el]; rfl
          · simp [iv_stI]
            exact C.i2
          · simp [iv_stI]
          · intro k hk
            simp [iv_stI]
            exact C.b k hk
        by_cases q3 : yL y = c
        · rw [if_pos q3] at fin
          have e : lx (yL y) = c := by rw [q3]; exact lx_lt (by omega)
          have e2 : lx 12 = -1 := rfl
          have := fin 12 rfl
          rw [e2] at this
          simp (disch := omega) only [e, ix_lit, inB_lit, decide_true, Bool.true_or, Bool.or_true, true_and, and_true, kI_add, kI_sub, kI_mul, tn_add, Int.toNat_natCast, Int.reduceToNat, kI_le, kI_lt, kI_inj, decide_eq_true_eq, Bool.not_eq_true', decide_eq_false_iff_not, not_true_eq_false, not_false_eq_true, Classical.not_not, Bool.false_eq_true, if_true, if_false, z0, bI_k0, bI_k1, isB_b, isB_0, isB_1, kI_long, kd_stI, ln_stI, rv_stI]
          exact this
        · rw [if_neg q3] at fin
          have e : ¬ lx (yL y) = (c : Int) := by unfold lx; split <;> omega
          have e3 : -1 ≤ lx (yL y) ∧ lx (yL y) ≤ 12 := by unfold lx; split <;> omega
          simp (disch := omega) only [e, ix_lit, inB_lit, decide_true, Bool.true_or, Bool.or_true, true_and, and_true, kI_add, kI_sub, kI_mul, tn_add, Int.toNat_natCast, Int.reduceToNat, kI_le, kI_lt, kI_inj, decide_eq_true_eq, Bool.not_eq_true', decide_eq_false_iff_not, not_true_eq_false, not_false_eq_true, Classical.not_not, Bool.false_eq_true, if_true, if_false, z0, bI_k0, bI_k1, isB_b, isB_0, isB_1, kI_long, kd_stI, ln_stI, rv_stI]
          exact fin (yL y) rfl
      · rw [if_neg q2, if_pos (Or.inr q2)]
        exact ⟨rfl, ng 2 (by omega)⟩
  · rw [if_neg qc]
    simp (disch := omega) only [S.k, ix_lit, inB_lit, decide_true, Bool.true_or, Bool.or_true, true_and, and_true, kI_add, kI_sub, kI_mul, tn_add, Int.toNat_natCast, Int.reduceToNat, kI_le, kI_lt, kI_inj, decide_eq_true_eq, Bool.not_eq_true', decide_eq_false_iff_not, not_true_eq_false, not_false_eq_true, Classical.not_not, Bool.false_eq_true, if_true, if_false, z0, bI_k0, bI_k1, isB_b, isB_0, isB_1, kI_long, kd_stI, ln_stI, rv_stI, Sh_hasCell_c S, qc]
    exact ⟨rfl, ng 1 (by omega)⟩
theorem Pg_conceal_g {T : Nat → Nat} {s : ST} {y : DY} {v : Int} {p pg : Nat} {h : AH} (F : Fix h) (S : XS T s p h) (g : PG pg) (C : XP y v pg h) (wy : WFY s y) {c : Int} (c1 : -2147483648 ≤ c) (c2 : c ≤ 2147483647) : GI 3 m_Pg_conceal [.ref pg, .ref p, .int (kI c)] h (kI (whyH s y c)) (PostD T y (dHide y c.toNat) v pg (whyH s y c) h) := by
  have n2 := S.wf.n12
  have hm := wy.m12 S.wf
  have ng : ∀ w, w ≠ 0 → PostD T y (dHide y c.toNat) v pg w h h := fun w q => ⟨Fr_rfl _ _ _, fun z => absurd z q, fun _ => C⟩
  refine GIo (s_Pg_conceal_0 ?_)
  unfold whyH
  by_cases qc : 0 ≤ c ∧ c < sN s
  · rw [if_pos qc]
    obtain ⟨c, rfl⟩ := Int.eq_ofNat_of_zero_le qc.1
    simp (disch := omega) only [S.k, pg_k F g, ix_lit, inB_lit, decide_true, Bool.true_or, Bool.or_true, true_and, and_true, kI_add, kI_sub, kI_mul, tn_add, Int.toNat_natCast, Int.reduceToNat, kI_le, kI_lt, kI_inj, decide_eq_true_eq, Bool.not_eq_true', decide_eq_false_iff_not, not_true_eq_false, not_false_eq_true, Classical.not_not, Bool.false_eq_true, if_true, if_false, z0, bI_k0, bI_k1, isB_b, isB_0, isB_1, kI_long, kd_stI, ln_stI, rv_stI, Sh_hasCell_c S, qc, Pg_isFound_c F g C S.wf wy, Pg_isDrawn_c F g C hm]
    by_cases q1 : foundF y = true
    · rw [if_pos q1, if_pos (Or.inl q1)]
      exact ⟨rfl, ng 2 (by omega)⟩
    · rw [if_neg q1]
      by_cases q2 : (yD y).testBit c = true
      · rw [if_neg (fun w => w q2), if_pos (Or.inr q2)]
        exact ⟨rfl, ng 2 (by omega)⟩
      · rw [if_pos q2, if_neg (fun w => w.elim q1 q2)]
        refine ⟨rfl, ((Fr_rfl _ _ _).stI (Or.inr (Or.inl rfl)) _).stI (Or.inr (Or.inl rfl)) _, fun _ => ⟨?_, ?_, ?_, ?_, ?_⟩, fun w => absurd rfl w⟩
        · simp [iv_stI]; exact C.i0
        · simp [iv_stI]; exact C.i1
        · simp [iv_stI]; rfl
        · simp [iv_stI, C.i3, kI_add]
        · intro k hk
          simp [iv_stI]
          exact C.b k hk
  · rw [if_neg qc]
    simp (disch := omega) only [S.k, ix_lit, inB_lit, decide_true, Bool.true_or, Bool.or_true, true_and, and_true, kI_add, kI_sub, kI_mul, tn_add, Int.toNat_natCast, Int.reduceToNat, kI_le, kI_lt, kI_inj, decide_eq_true_eq, Bool.not_eq_true', decide_eq_false_iff_not, not_true_eq_false, not_false_eq_true, Classical.not_not, Bool.false_eq_true, if_true, if_false, z0, bI_k0, bI_k1, isB_b, isB_0, isB_1, kI_long, kd_stI, ln_stI, rv_stI, Sh_hasCell_c S, qc]
    exact ⟨rfl, ng 1 (by omega)⟩
theorem Pg_setHabit_g {y : DY} {v : Int} {pg : Nat} {h : AH} (F : Fix h) (g : PG pg) (C : XP y v pg h) {a n : Nat} (ha : a < 4) : GV 1 m_Pg_setHabit [.ref pg, .int (kI a), .int (kI n)] h (fun h' => FZ pg h h' ∧ XP (dHab y a n) (v + 1) pg h') := by
  have b1 := g.b
  refine GVo (s_Pg_setHabit_0 ?_)
  simp (disch := omega) only [pg_k F g, pg_r F g, pg_ka F g, pg_la F g, isA, ix_lit, inB_lit, decide_true, Bool.true_or, Bool.or_true, true_and, and_true, kI_add, kI_sub, kI_mul, tn_add, Int.toNat_natCast, Int.reduceToNat, kI_le, kI_lt, kI_inj, decide_eq_true_eq, Bool.not_eq_true', decide_eq_false_iff_not, not_true_eq_false, not_false_eq_true, Classical.not_not, Bool.false_eq_true, if_true, if_false, z0, bI_k0, bI_k1, isB_b, isB_0, isB_1, kI_long, kd_stI, ln_stI, rv_stI, Nat.reduceLeDiff, Bool.and_true, Int.cast_ofNat_Int]
  rw [if_neg (by omega), if_neg (by omega)]
  refine ⟨rfl, ((Fr_rfl _ _ _).stI (Or.inr rfl) _).stI (Or.inl rfl) _, ?_, ?_, ?_, ?_, ?_⟩
  · simp [iv_stI]; exact C.i0
  · simp [iv_stI]; exact C.i1
  · simp [iv_stI]; exact C.i2
  · simp [iv_stI, C.i3, kI_add]
  · intro k hk
    simp [iv_stI]
    show (if k = a then kI n else ivA h (pg + 1) k) = kI ((if k = a then n else yB y k : Nat) : Int)
    by_cases q : k = a
    · rw [if_pos q, if_pos q]
    · rw [if_neg q, if_neg q]
      exact C.b k hk
theorem Pg_adopt_g {T : Nat → Nat} {s : ST} {y : DY} {v : Int} {p pg : Nat} {h : AH} (F : Fix h) (S : XS T s p h) (g : PG pg) (C : XP y v pg h) {a n : Int} (a1 : -2147483648 ≤ a) (a2 : a ≤ 2147483647) (c1 : -2147483648 ≤ n) (c2 : n ≤ 2147483647) : GI 2 m_Pg_adopt [.ref pg, .ref p, .int (kI a), .int (kI n)] h (kI (whyB s a n)) (PostD T y (dHab y a.toNat n.toNat) v pg (whyB s a n) h) := by
  have h4 := S.wf.2.2.2.2.2.1
  have ng : ∀ w, w ≠ 0 → PostD T y (dHab y a.toNat n.toNat) v pg w h h := fun w q => ⟨Fr_rfl _ _ _, fun z => absurd z q, fun _ => C⟩
  refine GIo (s_Pg_adopt_0 ?_)
  unfold whyB
  by_cases qa : 0 ≤ a ∧ a < sH s
  · simp (disch := omega) only [S.k, pg_k F g, ix_lit, inB_lit, decide_true, Bool.true_or, Bool.or_true, true_and, and_true, kI_add, kI_sub, kI_mul, tn_add, Int.toNat_natCast, Int.reduceToNat, kI_le, kI_lt, kI_inj, decide_eq_true_eq, Bool.not_eq_true', decide_eq_false_iff_not, not_true_eq_false, not_false_eq_true, Classical.not_not, Bool.false_eq_true, if_true, if_false, z0, bI_k0, bI_k1, isB_b, isB_0, isB_1, kI_long, kd_stI, ln_stI, rv_stI, Sh_hasHand_c S, qa]
    by_cases q1 : n < 0
    · rw [if_pos q1, if_neg (by omega)]
      exact ⟨rfl, ng 1 (by omega)⟩
    · rw [if_neg q1]
      by_cases q2 : n < 10
      · rw [if_pos q2, if_pos (by omega)]
        obtain ⟨a, rfl⟩ := Int.eq_ofNat_of_zero_le qa.1
        obtain ⟨n, rfl⟩ := Int.eq_ofNat_of_zero_le (show 0 ≤ n by omega)
        refine GV.use (Pg_setHabit_g F g C (a := a) (by omega)) (by omega) (fun h2 e2 => ?_)
        exact ⟨rfl, e2.1.fp, fun _ => e2.2, fun w => absurd rfl w⟩
      · rw [if_neg q2, if_neg (by omega)]
        exact ⟨rfl, ng 1 (by omega)⟩
  · rw [if_neg (fun w => qa w.1)]
    simp (disch := omega) only [S.k, ix_lit, inB_lit, decide_true, Bool.true_or, Bool.or_true, true_and, and_true, kI_add, kI_sub, kI_mul, tn_add, Int.toNat_natCast, Int.reduceToNat, kI_le, kI_lt, kI_inj, decide_eq_true_eq, Bool.not_eq_true', decide_eq_false_iff_not, not_true_eq_false, not_false_eq_true, Classical.not_not, Bool.false_eq_true, if_true, if_false, z0, bI_k0, bI_k1, isB_b, isB_0, isB_1, kI_long, kd_stI, ln_stI, rv_stI, Sh_hasHand_c S, qa]
    exact ⟨rfl, ng 1 (by omega)⟩
theorem GI.post {d d' u : Nat} {as : List Value} {h : AH} {x x' : Int32} {P P' : AH → Prop} (H : GI d u as h x P) (hd : d ≤ d') (hx : x = x') (hk : ∀ h', P h' → P' h') : GI d' u as h x' P' := by
  subst hx
  exact H.mono hd hk
theorem kI_div' {a b : Int} (h0 : 0 ≤ a) (h1 : a ≤ 2147483647) (h2 : 0 < b) (h3 : b ≤ 2147483647) : kI a - kI a / kI b * kI b = kI (a % b) := by
  rw [kI_div h0 h1 h2 h3, kI_mul, kI_sub, rem_int]
theorem Pg_obey_g {T : Nat → Nat} {s : ST} {y : DY} {v : Int} {p pg : Nat} {h : AH} (F : Fix h) (S : XS T s p h) (g : PG pg) (C : XP y v pg h) (t : TF T) (wy : WFY s y) {n : Int} (n1 : -9223372036854775808 ≤ n) (n2 : n ≤ 9223372036854775807) : GI 7 m_Pg_obey [.ref pg, .ref p, .long (kJ n)] h (kI (whyD s y n)) (PostD T y (dD y n) v pg (whyD s y n) h) := by
  have ng : ∀ w, w ≠ 0 → PostD T y (dD y n) v pg w h h := fun w q => ⟨Fr_rfl _ _ _, fun z => absurd z q, fun _ => C⟩
  refine GIo (s_Pg_obey_0 ?_)
  simp (disch := omega) only [decide_eq_true_eq, cmp_lt, cmp_ge, kJ_lt, kJ_le]
  have mid : (0 ≤ n ∧ n < 400) ∨ (500 ≤ n ∧ n < 800) → Safe 6 m_Pg_obey (32, [.ref pg, .ref p, .long (kJ n), unV, unV], [], h) (fun x k => Eqv x (some (.int (kI (whyD s y n)))) ∧ PostD T y (dD y n) v pg (whyD s y n) h k) := by
    intro hn
    have e1 : (kJ n).toInt32 = kI n := kJ_int (by omega) (by omega)
    have d1 : 0 ≤ n / 100 ∧ n / 100 < 100 := by omega
    have d2 : 0 ≤ n % 100 ∧ n % 100 < 100 := by omega
    refine s_Pg_obey_32 ?_
    simp (disch := omega) only [e1, pg_k F g, ix_lit, inB_lit, decide_true, Bool.true_or, Bool.or_true, true_and, and_true, kI_add, kI_sub, kI_mul, tn_add, Int.toNat_natCast, Int.reduceToNat, kI_le, kI_lt, kI_inj, decide_eq_true_eq, Bool.not_eq_true', decide_eq_false_iff_not, not_true_eq_false, not_false_eq_true, Classical.not_not, Bool.false_eq_true, if_true, if_false, z0, bI_k0, bI_k1, isB_b, isB_0, isB_1, kI_long, kd_stI, ln_stI, rv_stI, rem_int, kI_div, Int.reduceEq]
    unfold whyD dD
    by_cases q1 : n < 400
    · rw [if_neg (by omega), if_pos (by omega : 0 ≤ n ∧ n < 400), if_pos q1]
      exact GI.use (Pg_draw_g F S g C t wy (by omega) (by omega) (by omega) (by omega)) (by omega) (fun h' e => ⟨rfl, e⟩)
    · rw [if_pos (by omega), if_neg (by omega : ¬ (0 ≤ n ∧ n < 400)), if_neg q1]
      by_cases q2 : n < 600
      · rw [if_neg (by omega), if_pos (by omega : 500 ≤ n ∧ n < 600), if_pos q2]
        exact GI.use (Pg_erase_g F S g C wy (by omega) (by omega)) (by omega) (fun h' e => ⟨rfl, e⟩)
      · rw [if_pos (by omega), if_neg (by omega : ¬ (500 ≤ n ∧ n < 600)), if_neg q2]
        by_cases q3 : n < 700
        · rw [if_neg (by omega), if_pos (by omega : 600 ≤ n ∧ n < 700), if_pos q3]
          exact GI.use (Pg_adopt_g F S g C (by omega) (by omega) (by omega) (by omega)) (by omega) (fun h' e => ⟨rfl, e⟩)
        · rw [if_pos (by omega), if_neg (by omega : ¬ (600 ≤ n ∧ n < 700)), if_neg q3, if_pos (by omega : 700 ≤ n ∧ n < 800)]
          exact GI.use (Pg_conceal_g F S g C wy (by omega) (by omega)) (by omega) (fun h' e => ⟨rfl, e⟩)
  have out : ¬ ((0 ≤ n ∧ n < 400) ∨ (500 ≤ n ∧ n < 800)) → whyD s y n = 1 := by
    intro hn
    unfold whyD
    rw [if_neg (by omega), if_neg (by omega), if_neg (by omega), if_neg (by omega)]
  by_cases q1 : n < 0
  · rw [if_pos q1, out (by omega)]
    exact ⟨rfl, ng 1 (by omega)⟩
  · rw [if_neg q1]
    by_cases q2 : 800 ≤ n
    · rw [if_pos q2, out (by omega)]
      exact ⟨rfl, ng 1 (by omega)⟩
    · rw [if_neg q2]
      by_cases q3 : n < 400
      · rw [if_pos q3]
        exact mid (by omega)
      · rw [if_neg q3]
        by_cases q4 : 500 ≤ n
        · rw [if_pos q4]
          exact mid (by omega)
        · rw [if_neg q4, out (by omega)]
          exact ⟨rfl, ng 1 (by omega)⟩
theorem whyD_le (s : ST) (y : DY) (n : Int) : whyD s y n ≤ 3 := by
  unfold whyD
  have h1 := whyS_le s y (n / 100) (n % 100)
  have h2 := whyR_le s y (n - 500)
  have h3 := whyB_le s ((n - 600) / 10) (n % 10)
  have h4 := whyH_le s y (n - 700)
  split
  · omega
  · split
    · omega
    · split
      · omega
      · split <;> omega
theorem or_lt2 {m n c : Nat} (h : m < 2 ^ n) (hc : c < n) : m ||| 2 ^ c < 2 ^ n := Nat.or_lt_two_pow h (Nat.pow_lt_pow_right (by omega) hc)
theorem dif_lt {a b n : Nat} (h : a < 2 ^ n) : dif a b < 2 ^ n := by
  unfold dif
  exact Nat.xor_lt_two_pow h (and_lt h)
theorem WFY.draw {s : ST} {y : DY} (w : WFY s y) {c : Nat} (hc : c < sN s) : WFY s (dDraw y c) := ⟨or_lt2 w.1 hc, Or.inr hc, w.2.2⟩
theorem WFY.rub {s : ST} {y : DY} (w : WFY s y) (c : Nat) : WFY s (dRub y c) := by
  refine ⟨dif_lt w.1, ?_, w.2.2⟩
  show (if yL y = c then 12 else yL y) = 12 ∨ (if yL y = c then 12 else yL y) < sN s
  split
  · exact Or.inl rfl
  · exact w.2.1
theorem WFY.hide {s : ST} {y : DY} (w : WFY s y) {c : Nat} (hc : c < sN s) : WFY s (dHide y c) := ⟨w.1, w.2.1, by show (-1 : Int) ≤ (c : Int); omega, by show (c : Int) < sN s; omega, w.2.2.2.2⟩
theorem WFY.hab {s : ST} {y : DY} (w : WFY s y) {a n : Nat} (hn : n ≤ 9) : WFY s (dHab y a n) := by
  refine ⟨w.1, w.2.1, w.2.2.1, w.2.2.2.1, fun k => ?_⟩
  show (if k = a then n else yB y k) ≤ 9
  split
  · exact hn
  · exact w.2.2.2.2 k
theorem WFY.ofD {s : ST} {y : DY} (w : WFY s y) {n : Int} (q : whyD s y n = 0) : WFY s (dD y n) := by
  unfold whyD at q
  by_cases q1 : 0 ≤ n ∧ n < 400
  · rw [if_pos q1] at q
    have z := whyS_0 q
    have e : dD y n = dDraw y (n % 100).toNat := by unfold dD; rw [if_pos q1.2]
    rw [e]
    exact w.draw (by omega)
  · rw [if_neg q1] at q
    by_cases q2 : 500 ≤ n ∧ n < 600
    · have e : dD y n = dRub y (n - 500).toNat := by unfold dD; rw [if_neg (by omega), if_pos q2.2]
      rw [e]
      exact w.rub _
    · rw [if_neg q2] at q
      by_cases q3 : 600 ≤ n ∧ n < 700
      · have e : dD y n = dHab y ((n - 600) / 10).toNat (n % 10).toNat := by unfold dD; rw [if_neg (by omega), if_neg (by omega), if_pos q3.2]
        rw [e]
        exact w.hab (by omega)
      · rw [if_neg q3] at q
        by_cases q4 : 700 ≤ n ∧ n < 800
        · rw [if_pos q4] at q
          have z := whyH_0 q
          have e : dD y n = dHide y (n - 700).toNat := by unfold dD; rw [if_neg (by omega), if_neg (by omega), if_neg (by omega)]
          rw [e]
          exact w.hide (by omega)
        · rw [if_neg q4] at q
          omega
