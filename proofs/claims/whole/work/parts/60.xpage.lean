/-! the class's Page, and deeds -/
/-- an answer is so (a word that simp leaves as it is) -/
def Eqv (a b : Option Value) : Prop := a = b
theorem GIo {d u : Nat} {as : List Value} {h : AH} {x : Int32} {P : AH → Prop} (H : Safe d u (0, entL u as, [], h) (fun v k => Eqv v (some (.int x)) ∧ P k)) : GI (d + 1) u as h x P := GI_of H
theorem GJo {d u : Nat} {as : List Value} {h : AH} {x : Int64} {P : AH → Prop} (H : Safe d u (0, entL u as, [], h) (fun v k => Eqv v (some (.long x)) ∧ P k)) : GJ (d + 1) u as h x P := GJ_of H
theorem GRo {d u : Nat} {as : List Value} {h : AH} {x : Nat} {P : AH → Prop} (H : Safe d u (0, entL u as, [], h) (fun v k => Eqv v (some (.ref x)) ∧ P k)) : GR (d + 1) u as h x P := GR_of H
theorem GVo {d u : Nat} {as : List Value} {h : AH} {P : AH → Prop} (H : Safe d u (0, entL u as, [], h) (fun v k => Eqv v none ∧ P k)) : GV (d + 1) u as h P := GV_of H
def TF (T : Nat → Nat) : Prop := ∀ a, a ≤ 105 → T a = if a = 3 ∨ a = 6 ∨ a = 7 then 0 else if a = 5 then 1 else 2
theorem TF.two {T : Nat → Nat} (t : TF T) {a : Nat} (h1 : a ≤ 105) (h2 : ¬ (a = 3 ∨ a = 5 ∨ a = 6 ∨ a = 7)) : T a = 2 := by
  rw [t a h1, if_neg (by omega), if_neg (by omega)]
def PG (pg : Nat) : Prop := pg = 8 ∨ pg = 10 ∨ pg = 12 ∨ (16 ≤ pg ∧ pg ≤ 34 ∧ pg % 2 = 0) ∨ pg = 42 ∨ pg = 68 ∨ pg = 84 ∨ pg = 86
theorem PG.cases {pg : Nat} (g : PG pg) : pg = 8 ∨ pg = 10 ∨ pg = 12 ∨ pg = 16 ∨ pg = 18 ∨ pg = 20 ∨ pg = 22 ∨ pg = 24 ∨ pg = 26 ∨ pg = 28 ∨ pg = 30 ∨ pg = 32 ∨ pg = 34 ∨ pg = 42 ∨ pg = 68 ∨ pg = 84 ∨ pg = 86 := by
  unfold PG at g
  omega
theorem pg_k {h : AH} (F : Fix h) {pg : Nat} (g : PG pg) : kdA h pg = 3 := by
  rcases g.cases with rfl | rfl | rfl | rfl | rfl | rfl | rfl | rfl | rfl | rfl | rfl | rfl | rfl | rfl | rfl | rfl | rfl
  · exact kd_8 F
  · exact kd_10 F
  · exact kd_12 F
  · exact kd_16 F
  · exact kd_18 F
  · exact kd_20 F
  · exact kd_22 F
  · exact kd_24 F
  · exact kd_26 F
  · exact kd_28 F
  · exact kd_30 F
  · exact kd_32 F
  · exact kd_34 F
  · exact kd_42 F
  · exact kd_68 F
  · exact kd_84 F
  · exact kd_86 F
theorem pg_r {h : AH} (F : Fix h) {pg : Nat} (g : PG pg) : rvA h pg 4 = pg + 1 := by
  rcases g.cases with rfl | rfl | rfl | rfl | rfl | rfl | rfl | rfl | rfl | rfl | rfl | rfl | rfl | rfl | rfl | rfl | rfl
  · exact rv_8_4 F
  · exact rv_10_4 F
  · exact rv_12_4 F
  · exact rv_16_4 F
  · exact rv_18_4 F
  · exact rv_20_4 F
  · exact rv_22_4 F
  · exact rv_24_4 F
  · exact rv_26_4 F
  · exact rv_28_4 F
  · exact rv_30_4 F
  · exact rv_32_4 F
  · exact rv_34_4 F
  · exact rv_42_4 F
  · exact rv_68_4 F
  · exact rv_84_4 F
  · exact rv_86_4 F
theorem pg_ka {h : AH} (F : Fix h) {pg : Nat} (g : PG pg) : kdA h (pg + 1) = 20 := by
  rcases g.cases with rfl | rfl | rfl | rfl | rfl | rfl | rfl | rfl | rfl | rfl | rfl | rfl | rfl | rfl | rfl | rfl | rfl
  · exact kd_9 F
  · exact kd_11 F
  · exact kd_13 F
  · exact kd_17 F
  · exact kd_19 F
  · exact kd_21 F
  · exact kd_23 F
  · exact kd_25 F
  · exact kd_27 F
  · exact kd_29 F
  · exact kd_31 F
  · exact kd_33 F
  · exact kd_35 F
  · exact kd_43 F
  · exact kd_69 F
  · exact kd_85 F
  · exact kd_87 F
theorem pg_la {h : AH} (F : Fix h) {pg : Nat} (g : PG pg) : lnA h (pg + 1) = 4 := by
  rcases g.cases with rfl | rfl | rfl | rfl | rfl | rfl | rfl | rfl | rfl | rfl | rfl | rfl | rfl | rfl | rfl | rfl | rfl
  · exact ln_9 F
  · exact ln_11 F
  · exact ln_13 F
  · exact ln_17 F
  · exact ln_19 F
  · exact ln_21 F
  · exact ln_23 F
  · exact ln_25 F
  · exact ln_27 F
  · exact ln_29 F
  · exact ln_31 F
  · exact ln_33 F
  · exact ln_35 F
  · exact ln_43 F
  · exact ln_69 F
  · exact ln_85 F
  · exact ln_87 F
def XP (y : DY) (v : Int) (pg : Nat) (h : AH) : Prop := (ivA h pg 0 = kI (yD y)) ∧ (ivA h pg 1 = kI (lx (yL y))) ∧ (ivA h pg 2 = kI (yX y)) ∧ (ivA h pg 3 = kI v) ∧ (∀ k, k < 4 → ivA h (pg + 1) k = kI (yB y k))
theorem XP.i0 {y : DY} {v : Int} {pg : Nat} {h : AH} (C : XP y v pg h) : ivA h pg 0 = kI (yD y) := C.1
theorem XP.i1 {y : DY} {v : Int} {pg : Nat} {h : AH} (C : XP y v pg h) : ivA h pg 1 = kI (lx (yL y)) := C.2.1
theorem XP.i2 {y : DY} {v : Int} {pg : Nat} {h : AH} (C : XP y v pg h) : ivA h pg 2 = kI (yX y) := C.2.2.1
theorem XP.i3 {y : DY} {v : Int} {pg : Nat} {h : AH} (C : XP y v pg h) : ivA h pg 3 = kI v := C.2.2.2.1
theorem XP.b {y : DY} {v : Int} {pg : Nat} {h : AH} (C : XP y v pg h) : ∀ k, k < 4 → ivA h (pg + 1) k = kI (yB y k) := C.2.2.2.2
theorem XP.fr {I J : Nat → Nat → Prop} {y : DY} {v : Int} {pg : Nat} {h h' : AH} (C : XP y v pg h) (e : Fr I J h h') (hi : ∀ k, ¬ I pg k ∧ ¬ I (pg + 1) k) : XP y v pg h' := by
  unfold XP
  simp only [e.2.2.2.2.2.1 pg _ (hi _).1, e.2.2.2.2.2.1 (pg + 1) _ (hi _).2]
  exact C
theorem XP.fg {T : Nat → Nat} {y : DY} {v : Int} {pg : Nat} {h h' : AH} (C : XP y v pg h) (t : TF T) (g : PG pg) (e : FG T h h') : XP y v pg h' := by
  have h1 := t.two (a := pg) (by unfold PG at g; omega) (by unfold PG at g; omega)
  have h2 := t.two (a := pg + 1) (by unfold PG at g; omega) (by unfold PG at g; omega)
  exact C.fr e (fun k => ⟨by omega, by omega⟩)
abbrev FP (T : Nat → Nat) (pg : Nat) (h h' : AH) : Prop := Fr (fun a _ => T a = 1 ∨ a = pg ∨ a = pg + 1) JM h h'
theorem FG.fp {T : Nat → Nat} {h h' : AH} (e : FG T h h') (pg : Nat) : FP T pg h h' := e.mono (fun _ _ w => Or.inl w) (fun _ _ w => w)
theorem XS.fp {T : Nat → Nat} {s : ST} {p pg : Nat} {h h' : AH} (C : XS T s p h) (t : TF T) (g : PG pg) (e : FP T pg h h') : XS T s p h' := by
  have h1 := t.two (a := pg) (by unfold PG at g; omega) (by unfold PG at g; omega)
  have h2 := t.two (a := pg + 1) (by unfold PG at g; omega) (by unfold PG at g; omega)
  exact C.fr e (fun a _ w => by rcases w with w | rfl | rfl <;> omega)
theorem XP.fp {T : Nat → Nat} {y : DY} {v : Int} {pg pg' : Nat} {h h' : AH} (C : XP y v pg h) (t : TF T) (g : PG pg) (g' : PG pg') (n : pg ≠ pg') (e : FP T pg' h h') : XP y v pg h' := by
  have h1 := t.two (a := pg) (by unfold PG at g; omega) (by unfold PG at g; omega)
  have h2 := t.two (a := pg + 1) (by unfold PG at g; omega) (by unfold PG at g; omega)
  exact C.fr e (fun k => ⟨by unfold PG at g g'; omega, by unfold PG at g g'; omega⟩)
theorem WFY.m12 {s : ST} {y : DY} (w : WFS s) (q : WFY s y) : yD y < 4096 := Nat.lt_of_lt_of_le q.1 (Nat.pow_le_pow_right (n := 2) (by omega) w.n12)
theorem WFY.l12 {s : ST} {y : DY} (w : WFS s) (q : WFY s y) : yL y ≤ 12 := by
  have := q.2.1
  have := w.n12
  omega
def foundF (y : DY) : Bool := yX y != -1 && (yD y).testBit (yX y).toNat
theorem Pg_isDrawn_c {y : DY} {v : Int} {pg d : Nat} {h : AH} (F : Fix h) (g : PG pg) (C : XP y v pg h) (hm : yD y < 4096) (hd : 1 ≤ d) {c : Nat} (hc : c < 32) {K : Int32 → AH → Prop} : CallI d m_Pg_isDrawn [.ref pg, .int (kI c)] h K ↔ K (bI32 ((yD y).testBit c = true)) h := by
  refine Ret.I (d := 1) (ret_of (s_Pg_isDrawn_0 ?_)) hd
  simp (disch := omega) only [pg_k F g, C.i0, kI_bit, ix_lit, inB_lit, decide_true, Bool.true_or, Bool.or_true, true_and, and_true, kI_add, kI_sub, kI_mul, tn_add, Int.toNat_natCast, Int.reduceToNat, kI_le, kI_lt, kI_inj, decide_eq_true_eq, Bool.not_eq_true', decide_eq_false_iff_not, not_true_eq_false, not_false_eq_true, Classical.not_not, Bool.false_eq_true, if_true, if_false, z0, bI_k0, bI_k1, isB_b, isB_0, isB_1, kI_long, kd_stI, ln_stI, rv_stI]
  unfold bI32
  by_cases q : (yD y).testBit c = true
  · rw [if_neg (fun w => w q), if_pos q]
    (all_goals first | exact ⟨rfl, rfl⟩ | exact ⟨rfl, trivial⟩ | rfl | trivial)
  · rw [if_pos q, if_neg q]
    (all_goals first | exact ⟨rfl, rfl⟩ | exact ⟨rfl, trivial⟩ | rfl | trivial)
theorem Pg_isFound_c {s : ST} {y : DY} {v : Int} {pg d : Nat} {h : AH} (F : Fix h) (g : PG pg) (C : XP y v pg h) (w : WFS s) (wy : WFY s y) (hd : 2 ≤ d) {K : Int32 → AH → Prop} : CallI d m_Pg_isFound [.ref pg] h K ↔ K (bI32 (foundF y = true)) h := by
  refine Ret.I (d := 2) (ret_of (s_Pg_isFound_0 ?_)) hd
  have x1 := wy.2.2.1
  have x2 := wy.2.2.2.1
  have n2 := w.n12
  have hm := wy.m12 w
  unfold foundF
  by_cases q : yX y = -1
  · simp (disch := omega) only [pg_k F g, C.i2, ix_lit, inB_lit, decide_true, Bool.true_or, Bool.or_true, true_and, and_true, kI_add, kI_sub, kI_mul, tn_add, Int.toNat_natCast, Int.reduceToNat, kI_le, kI_lt, kI_inj, decide_eq_true_eq, Bool.not_eq_true', decide_eq_false_iff_not, not_true_eq_false, not_false_eq_true, Classical.not_not, Bool.false_eq_true, if_true, if_false, z0, bI_k0, bI_k1, isB_b, isB_0, isB_1, kI_long, kd_stI, ln_stI, rv_stI, q]
    (all_goals first | exact ⟨rfl, rfl⟩ | exact ⟨rfl, trivial⟩ | rfl | trivial)
  · obtain ⟨n, hn⟩ := Int.eq_ofNat_of_zero_le (show 0 ≤ yX y by omega)
    have C2 := C.i2
    rw [hn] at C2 q x2 ⊢
    have qb : ((n : Int) != -1) = true := by simpa using q
    simp (disch := omega) only [pg_k F g, C2, ix_lit, inB_lit, decide_true, Bool.true_or, Bool.or_true, true_and, and_true, kI_add, kI_sub, kI_mul, tn_add, Int.toNat_natCast, Int.reduceToNat, kI_le, kI_lt, kI_inj, decide_eq_true_eq, Bool.not_eq_true', decide_eq_false_iff_not, not_true_eq_false, not_false_eq_true, Classical.not_not, Bool.false_eq_true, if_true, if_false, z0, bI_k0, bI_k1, isB_b, isB_0, isB_1, kI_long, kd_stI, ln_stI, rv_stI, q, Pg_isDrawn_c F g C hm, qb, Bool.true_and]
    unfold bI32
    by_cases z : (yD y).testBit n = true
    · rw [if_neg (fun w => w z), if_pos z]
      (all_goals first | exact ⟨rfl, rfl⟩ | exact ⟨rfl, trivial⟩ | rfl | trivial)
    · rw [if_pos z, if_neg z]
      (all_goals first | exact ⟨rfl, rfl⟩ | exact ⟨rfl, trivial⟩ | rfl | trivial)
theorem Pg_habitOf_c {y : DY} {v : Int} {pg d : Nat} {h : AH} (F : Fix h) (g : PG pg) (C : XP y v pg h) (hd : 1 ≤ d) {c : Nat} (hc : c < 4) {K : Int32 → AH → Prop} : CallI d m_Pg_habitOf [.ref pg, .int (kI c)] h K ↔ K (kI (yB y c)) h := by
  refine Ret.I (d := 1) (ret_of (s_Pg_habitOf_0 ?_)) hd
  simp (disch := omega) only [pg_k F g, pg_r F g, pg_ka F g, pg_la F g, isA, ix_lit, inB_lit, decide_true, Bool.true_or, Bool.or_true, true_and, and_true, kI_add, kI_sub, kI_mul, tn_add, Int.toNat_natCast, Int.reduceToNat, kI_le, kI_lt, kI_inj, decide_eq_true_eq, Bool.not_eq_true', decide_eq_false_iff_not, not_true_eq_false, not_false_eq_true, Classical.not_not, Bool.false_eq_true, if_true, if_false, z0, bI_k0, bI_k1, isB_b, isB_0, isB_1, kI_long, kd_stI, ln_stI, rv_stI, Nat.reduceLeDiff, Bool.and_true, Int.cast_ofNat_Int, C.b]
  rw [if_neg (by omega), if_neg (by omega)]
  (all_goals first | exact ⟨rfl, rfl⟩ | exact ⟨rfl, trivial⟩ | rfl | trivial)
/-! deeds: why not, and what they do -/
def whyS (s : ST) (y : DY) (h c : Int) : Nat := if (0 ≤ h ∧ h < sH s) ∧ (0 ≤ c ∧ c < sN s) then (if foundF y = true ∨ (yD y).testBit c.toNat = true then 2 else if mayF s h.toNat (yB y h.toNat) c.toNat (yD y) (yL y) = true then 0 else 3) else 1
def whyR (s : ST) (y : DY) (c : Int) : Nat := if 0 ≤ c ∧ c < sN s then (if foundF y = true ∨ ¬ (yD y).testBit c.toNat = true then 2 else 0) else 1
def whyH (s : ST) (y : DY) (c : Int) : Nat := if 0 ≤ c ∧ c < sN s then (if foundF y = true ∨ (yD y).testBit c.toNat = true then 2 else 0) else 1
def whyB (s : ST) (h n : Int) : Nat := if (0 ≤ h ∧ h < sH s) ∧ (0 ≤ n ∧ n < 10) then 0 else 1
def dDraw (y : DY) (c : Nat) : DY := (yD y ||| 2 ^ c, c, yX y, yB y)
def dRub (y : DY) (c : Nat) : DY := (dif (yD y) (2 ^ c), if yL y = c then 12 else yL y, yX y, yB y)
def dHide (y : DY) (c : Nat) : DY := (yD y, yL y, (c : Int), yB y)
def dHab (y : DY) (h n : Nat) : DY := (yD y, yL y, yX y, fun k => if k = h then n else yB y k)
def whyD (s : ST) (y : DY) (v : Int) : Nat := if 0 ≤ v ∧ v < 400 then whyS s y (v / 100) (v % 100) else if 500 ≤ v ∧ v < 600 then whyR s y (v - 500) else if 600 ≤ v ∧ v < 700 then whyB s ((v - 600) / 10) (v % 10) else if 700 ≤ v ∧ v < 800 then whyH s y (v - 700) else 1
def dD (y : DY) (v : Int) : DY := if v < 400 then dDraw y (v % 100).toNat else if v < 600 then dRub y (v - 500).toNat else if v < 700 then dHab y ((v - 600) / 10).toNat (v % 10).toNat else dHide y (v - 700).toNat
theorem Pg_why_g {T : Nat → Nat} {s : ST} {y : DY} {v : Int} {p pg : Nat} {h : AH} (F : Fix h) (S : XS T s p h) (g : PG pg) (C : XP y v pg h) (t : TF T) (wy : WFY s y) {a c : Int} (a1 : -2147483648 ≤ a) (a2 : a ≤ 2147483647) (c1 : -2147483648 ≤ c) (c2 : c ≤ 2147483647) : GI 5 m_Pg_whyNotDraw [.ref pg, .ref p, .int (kI a), .int (kI c)] h (kI (whyS s y a c)) (FG T h) := by
  have n2 := S.wf.n12
  have h4 := S.wf.2.2.2.2.2.1
  have hm := wy.m12 S.wf
  refine GIo (s_Pg_whyNotDraw_0 ?_)
  unfold whyS
  by_cases qa : 0 ≤ a ∧ a < sH s
  · by_cases qc : 0 ≤ c ∧ c < sN s
    · obtain ⟨hd, rfl⟩ := Int.eq_ofNat_of_zero_le qa.1
      obtain ⟨c, rfl⟩ := Int.eq_ofNat_of_zero_le qc.1
      rw [if_pos ⟨qa, qc⟩]
      simp (disch := omega) only [S.k, pg_k F g, ix_lit, inB_lit, decide_true, Bool.true_or, Bool.or_true, true_and, and_true, kI_add, kI_sub, kI_mul, tn_add, Int.toNat_natCast, Int.reduceToNat, kI_le, kI_lt, kI_inj, decide_eq_true_eq, Bool.not_eq_true', decide_eq_false_iff_not, not_true_eq_false, not_false_eq_true, Classical.not_not, Bool.false_eq_true, if_true, if_false, z0, bI_k0, bI_k1, isB_b, isB_0, isB_1, kI_long, kd_stI, ln_stI, rv_stI, Sh_hasHand_c S, Sh_hasCell_c S, qa, qc, Pg_isFound_c F g C S.wf wy, Pg_isDrawn_c F g C hm, Pg_habitOf_c F g C, C.i0, C.i1]
      by_cases q1 : foundF y = true
      · rw [if_pos q1, if_pos (Or.inl q1)]
        exact ⟨rfl, Fr_rfl _ _ _⟩
      · rw [if_neg q1]
        by_cases q2 : (yD y).testBit c = true
        · rw [if_neg (fun w => w q2), if_pos (Or.inr q2)]
          exact ⟨rfl, Fr_rfl _ _ _⟩
        · rw [if_pos q2, if_neg (fun w => w.elim q1 q2)]
          have b9 := wy.2.2.2.2 hd
          refine GI.use (Sh_allows_g S (by omega) (by omega) (by omega) hm wy.2.1) (by omega) (fun h8 e8 => ?_)
          simp (disch := omega) only [ix_lit, inB_lit, decide_true, Bool.true_or, Bool.or_true, true_and, and_true, kI_add, kI_sub, kI_mul, tn_add, Int.toNat_natCast, Int.reduceToNat, kI_le, kI_lt, kI_inj, decide_eq_true_eq, Bool.not_eq_true', decide_eq_false_iff_not, not_true_eq_false, not_false_eq_true, Classical.not_not, Bool.false_eq_true, if_true, if_false, z0, bI_k0, bI_k1, isB_b, isB_0, isB_1, kI_long, kd_stI, ln_stI, rv_stI]
          by_cases z : mayF s hd (yB y hd) c (yD y) (yL y) = true
          · rw [if_neg (fun w => w z), if_pos z]
            exact ⟨rfl, e8⟩
          · rw [if_pos z, if_neg z]
            exact ⟨rfl, e8⟩
    · rw [if_neg (fun w => qc w.2)]
      simp (disch := omega) only [S.k, ix_lit, inB_lit, decide_true, Bool.true_or, Bool.or_true, true_and, and_true, kI_add, kI_sub, kI_mul, tn_add, Int.toNat_natCast, Int.reduceToNat, kI_le, kI_lt, kI_inj, decide_eq_true_eq, Bool.not_eq_true', decide_eq_false_iff_not, not_true_eq_false, not_false_eq_true, Classical.not_not, Bool.false_eq_true, if_true, if_false, z0, bI_k0, bI_k1, isB_b, isB_0, isB_1, kI_long, kd_stI, ln_stI, rv_stI, Sh_hasHand_c S, Sh_hasCell_c S, qa, qc]
      exact ⟨rfl, Fr_rfl _ _ _⟩
  · rw [if_neg (fun w => qa w.1)]
    simp (disch := omega) only [S.k, ix_lit, inB_lit, decide_true, Bool.true_or, Bool.or_true, true_and, and_true, kI_add, kI_sub, kI_mul, tn_add, Int.toNat_natCast, Int.reduceToNat, kI_le, kI_lt, kI_inj, decide_eq_true_eq, Bool.not_eq_true', decide_eq_false_iff_not, not_true_eq_false, not_false_eq_true, Classical.not_not, Bool.false_eq_true, if_true, if_false, z0, bI_k0, bI_k1, isB_b, isB_0, isB_1, kI_long, kd_stI, ln_stI, rv_stI, Sh_hasHand_c S, qa]
    exact ⟨rfl, Fr_rfl _ _ _⟩
