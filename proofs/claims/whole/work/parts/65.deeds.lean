/-! both sides' base states; stroke, rub, habit, hide, undo -/
def BX (T : Nat → Nat) (s : ST) (p : Nat) (y : DY) (v : Int) (hs : List DY) (nx : Nat) (h : AH) : Prop := (Fix h) ∧ (TF T) ∧ (rvA h 1 2 = p) ∧ (XS T s p h) ∧ (XP y v 8 h) ∧ (XH hs nx h) ∧ (WFY s y) ∧ (∀ i, i < hs.length → WFY s (hs.getD i y0))
theorem BX.F {T : Nat → Nat} {s : ST} {p : Nat} {y : DY} {v : Int} {hs : List DY} {nx : Nat} {h : AH} (C : BX T s p y v hs nx h) : Fix h := C.1
theorem BX.t {T : Nat → Nat} {s : ST} {p : Nat} {y : DY} {v : Int} {hs : List DY} {nx : Nat} {h : AH} (C : BX T s p y v hs nx h) : TF T := C.2.1
theorem BX.r {T : Nat → Nat} {s : ST} {p : Nat} {y : DY} {v : Int} {hs : List DY} {nx : Nat} {h : AH} (C : BX T s p y v hs nx h) : rvA h 1 2 = p := C.2.2.1
theorem BX.S {T : Nat → Nat} {s : ST} {p : Nat} {y : DY} {v : Int} {hs : List DY} {nx : Nat} {h : AH} (C : BX T s p y v hs nx h) : XS T s p h := C.2.2.2.1
theorem BX.P {T : Nat → Nat} {s : ST} {p : Nat} {y : DY} {v : Int} {hs : List DY} {nx : Nat} {h : AH} (C : BX T s p y v hs nx h) : XP y v 8 h := C.2.2.2.2.1
theorem BX.H {T : Nat → Nat} {s : ST} {p : Nat} {y : DY} {v : Int} {hs : List DY} {nx : Nat} {h : AH} (C : BX T s p y v hs nx h) : XH hs nx h := C.2.2.2.2.2.1
theorem BX.wy {T : Nat → Nat} {s : ST} {p : Nat} {y : DY} {v : Int} {hs : List DY} {nx : Nat} {h : AH} (C : BX T s p y v hs nx h) : WFY s y := C.2.2.2.2.2.2.1
theorem BX.wh {T : Nat → Nat} {s : ST} {p : Nat} {y : DY} {v : Int} {hs : List DY} {nx : Nat} {h : AH} (C : BX T s p y v hs nx h) : ∀ i, i < hs.length → WFY s (hs.getD i y0) := C.2.2.2.2.2.2.2
def BM (s : ST) (y : DY) (hs : List DY) (h : AH) : Prop := (MC s y h) ∧ (MH hs h) ∧ (∀ i, i < hs.length → WFY s (hs.getD i y0))
theorem BM.M {s : ST} {y : DY} {hs : List DY} {h : AH} (C : BM s y hs h) : MC s y h := C.1
theorem BM.H {s : ST} {y : DY} {hs : List DY} {h : AH} (C : BM s y hs h) : MH hs h := C.2.1
theorem BM.wh {s : ST} {y : DY} {hs : List DY} {h : AH} (C : BM s y hs h) : ∀ i, i < hs.length → WFY s (hs.getD i y0) := C.2.2
theorem PG8 : PG 8 := Or.inl rfl
theorem PG10 : PG 10 := Or.inr (Or.inl rfl)
theorem PG12 : PG 12 := Or.inr (Or.inr (Or.inl rfl))
theorem wh_take {s : ST} {y : DY} {hs : List DY} (wy : WFY s y) (wh : ∀ i, i < hs.length → WFY s (hs.getD i y0)) : ∀ i, i < ((y :: hs).take 10).length → WFY s (((y :: hs).take 10).getD i y0) := by
  intro i hi
  have lt : ((y :: hs).take 10).length = min 10 (hs.length + 1) := by rw [List.length_take]; rfl
  rw [lt] at hi
  rw [getD_take (by omega)]
  cases i with
  | zero => exact wy
  | succ j => exact wh j (by omega)
theorem BX.page {T : Nat → Nat} {s : ST} {p : Nat} {y y' : DY} {v v' : Int} {hs : List DY} {nx : Nat} {h h' : AH} (B : BX T s p y v hs nx h) (e : FP T 8 h h') (wy : WFY s y') (P : XP y' v' 8 h') : BX T s p y' v' hs nx h' := by
  refine ⟨e.fix B.F, B.t, by rw [e.2.2.1]; exact B.r, B.S.fp B.t PG8 e, P, B.H.fr e (fun a k h1 h2 w => ?_), wy, B.wh⟩
  have := B.t.two (a := a) (by omega) (by omega)
  omega
theorem BX.scr {T : Nat → Nat} {s : ST} {p : Nat} {y : DY} {v : Int} {hs : List DY} {nx : Nat} {h h' : AH} {I J : Nat → Nat → Prop} (B : BX T s p y v hs nx h) (e : Fr I J h h') (hi : ∀ a k, I a k → T a = 1 ∨ (10 ≤ a ∧ a ≤ 13) ∨ (36 ≤ a ∧ a ≤ 105) ∨ (a = 1 ∨ a = 2)) : BX T s p y v hs nx h' := by
  have t2 := fun a h1 h2 => B.t.two (a := a) h1 h2
  refine ⟨e.fix B.F, B.t, by rw [e.2.2.1]; exact B.r, B.S.fr e (fun a k w => ?_), B.P.fr e (fun k => ⟨fun w => ?_, fun w => ?_⟩), B.H.fr e (fun a k h1 h2 w => ?_), B.wy, B.wh⟩
  · rcases hi a k w with q | q | q | q
    · omega
    · have := t2 a (by omega) (by omega); omega
    · have := t2 a (by omega) (by omega); omega
    · have := t2 a (by omega) (by omega); omega
  · have := t2 8 (by omega) (by omega)
    rcases hi 8 k w with q | q | q | q <;> omega
  · have := t2 (8 + 1) (by omega) (by omega)
    rcases hi (8 + 1) k w with q | q | q | q <;> omega
  · have := t2 a (by omega) (by omega)
    rcases hi a k w with q | q | q | q <;> omega
theorem BX.hist {T : Nat → Nat} {s : ST} {p : Nat} {y : DY} {v : Int} {hs hs' : List DY} {nx nx' : Nat} {h h' : AH} (B : BX T s p y v hs nx h) (e : Fr IH JM h h') (X : XH hs' nx' h') (wh : ∀ i, i < hs'.length → WFY s (hs'.getD i y0)) : BX T s p y v hs' nx' h' := by
  have t2 := fun a h1 h2 => B.t.two (a := a) h1 h2
  refine ⟨e.fix B.F, B.t, by rw [e.2.2.1]; exact B.r, B.S.fr e (fun a k w => ?_), B.P.fr e (fun k => ⟨fun w => ?_, fun w => ?_⟩), X, B.wy, wh⟩
  · unfold IH at w
    have := t2 a (by omega) (by omega)
    omega
  · unfold IH at w; omega
  · unfold IH at w; omega
/-- cells of the class that deeds change -/
def IXd (T : Nat → Nat) (a k : Nat) : Prop := T a = 1 ∨ (8 ≤ a ∧ a ≤ 13) ∨ IH a k
def OutX (T : Nat → Nat) (s : ST) (p : Nat) (y y' : DY) (v : Int) (hs : List DY) (why : Nat) (h h' : AH) : Prop := Fr (IXd T) JM h h' ∧ ∃ nx', BX T s p (if why = 0 then y' else y) (if why = 0 then v + 1 else v) (if why = 0 then (y :: hs).take 10 else hs) nx' h'
def ansD (s : ST) (why : Nat) (y' : DY) : Int := if why = 0 then (sN s : Int) - pop (yD y') else -10 - (why : Int)
theorem X_keptLeft_g {T : Nat → Nat} {s : ST} {p : Nat} {y z : DY} {v v2 : Int} {hs : List DY} {nx : Nat} {h : AH} (B : BX T s p y v hs nx h) (Z : XP z v2 10 h) (wz : WFY s z) : GI 3 m_X_keptLeft [.ref 1] h (kI ((sN s : Int) - pop (yD y))) (fun h' => Fr IH JM h h' ∧ ∃ nx', BX T s p y v ((z :: hs).take 10) nx' h') := by
  have F := B.F
  refine GIo (s_X_keptLeft_0 ?_)
  simp (disch := omega) only [kd_1 F, rv_1_6 F, rv_1_4 F, kd_14 F, decide_true, true_and]
  refine GV.use (Hi_keep_g F B.H PG10 (by omega) Z) (by omega) (fun h1 e1 => ?_)
  have B1 := B.hist e1.1 e1.2 (wh_take wz B.wh)
  have F1 := B1.F
  have hm := B.wy.m12 B.S.wf
  simp (disch := omega) only [kd_1 F1, rv_1_3 F1, B1.r, B1.S.k, kd_8 F1, decide_true, true_and, B1.P.i0, Sh_left_c B1.S]
  exact ⟨rfl, e1.1, _, B1⟩
theorem X_copy {T : Nat → Nat} {s : ST} {p : Nat} {y : DY} {v : Int} {hs : List DY} {nx : Nat} {h : AH} (B : BX T s p y v hs nx h) {d : Nat} (hd : 1 ≤ d) {K : AH → Prop} (H : ∀ h1 v2, FZ 10 h h1 → BX T s p y v hs nx h1 → XP y v2 10 h1 → K h1) : CallV d m_Pg_copy [.ref 10, .ref 8] h K := by
  refine GV.use (Pg_copy_g B.F PG10 PG8 (by omega) B.P (kI_of _)) hd (fun h1 e1 => ?_)
  exact H h1 _ e1.1 (B.scr e1.1 (fun a k w => by omega)) e1.2
theorem X_stroke_g {T : Nat → Nat} {s : ST} {p : Nat} {y : DY} {v : Int} {hs : List DY} {nx : Nat} {h : AH} (B : BX T s p y v hs nx h) {a c : Int} (a1 : -2147483648 ≤ a) (a2 : a ≤ 2147483647) (c1 : -2147483648 ≤ c) (c2 : c ≤ 2147483647) : GI 8 m_X_stroke [.ref 1, .int (kI a), .int (kI c)] h (kI (ansD s (whyS s y a c) (dDraw y c.toNat))) (OutX T s p y (dDraw y c.toNat) v hs (whyS s y a c) h) := by
  have F := B.F
  have wl := whyS_le s y a c
  refine GIo (s_X_stroke_0 ?_)
  simp (disch := omega) only [kd_1 F, rv_1_4 F, rv_1_3 F, kd_10 F, decide_true, true_and]
  refine X_copy B (by omega) (fun h1 v2 e1 B1 Z1 => ?_)
  have F1 := B1.F
  simp (disch := omega) only [kd_1 F1, rv_1_3 F1, B1.r, kd_8 F1, decide_true, true_and]
  refine GI.use (Pg_draw_g F1 B1.S PG8 B1.P B1.t B1.wy a1 a2 c1 c2) (by omega) (fun h2 e2 => ?_)
  have f2 : Fr (IXd T) JM h h2 := (e1.mono (fun a k w => Or.inr (Or.inl (by omega))) (fun _ _ w => w)).trans (e2.1.mono (fun a k w => by rcases w with w | w; exact Or.inl w; exact Or.inr (Or.inl (by omega))) (fun _ _ w => w))
  unfold OutX ansD
  by_cases q : whyS s y a c = 0
  · have z := whyS_0 q
    have B2 := B1.page e2.1 (B.wy.draw (c := c.toNat) (by omega)) (e2.2.1 q)
    have Z2 := Z1.fp B.t PG10 PG8 (by omega) e2.1
    simp (disch := omega) only [ix_lit, inB_lit, decide_true, Bool.true_or, Bool.or_true, true_and, and_true, kI_add, kI_sub, kI_mul, tn_add, Int.toNat_natCast, Int.reduceToNat, kI_le, kI_lt, kI_inj, decide_eq_true_eq, Bool.not_eq_true', decide_eq_false_iff_not, not_true_eq_false, not_false_eq_true, Classical.not_not, Bool.false_eq_true, if_true, if_false, z0, bI_k0, bI_k1, isB_b, isB_0, isB_1, kI_long, kd_stI, ln_stI, rv_stI, kd_1 B2.F]
    simp only [if_pos q]
    rw [if_neg (by omega)]
    refine GI.use (X_keptLeft_g B2 Z2 B.wy) (by omega) (fun h3 e3 => ?_)
    exact ⟨rfl, f2.trans (e3.1.mono (fun a k w => Or.inr (Or.inr w)) (fun _ _ w => w)), e3.2⟩
  · have B2 := B1.page e2.1 B.wy (e2.2.2 q)
    simp (disch := omega) only [ix_lit, inB_lit, decide_true, Bool.true_or, Bool.or_true, true_and, and_true, kI_add, kI_sub, kI_mul, tn_add, Int.toNat_natCast, Int.reduceToNat, kI_le, kI_lt, kI_inj, decide_eq_true_eq, Bool.not_eq_true', decide_eq_false_iff_not, not_true_eq_false, not_false_eq_true, Classical.not_not, Bool.false_eq_true, if_true, if_false, z0, bI_k0, bI_k1, isB_b, isB_0, isB_1, kI_long, kd_stI, ln_stI, rv_stI]
    simp only [if_neg q]
    rw [if_pos (by omega)]
    exact ⟨rfl, f2, _, B2⟩
theorem X_rub_g {T : Nat → Nat} {s : ST} {p : Nat} {y : DY} {v : Int} {hs : List DY} {nx : Nat} {h : AH} (B : BX T s p y v hs nx h) {c : Int} (c1 : -2147483648 ≤ c) (c2 : c ≤ 2147483647) : GI 8 m_X_rub [.ref 1, .int (kI c)] h (kI (ansD s (whyR s y c) (dRub y c.toNat))) (OutX T s p y (dRub y c.toNat) v hs (whyR s y c) h) := by
  have F := B.F
  have wl := whyR_le s y c
  refine GIo (s_X_rub_0 ?_)
  simp (disch := omega) only [kd_1 F, rv_1_4 F, rv_1_3 F, kd_10 F, decide_true, true_and]
  refine X_copy B (by omega) (fun h1 v2 e1 B1 Z1 => ?_)
  have F1 := B1.F
  simp (disch := omega) only [kd_1 F1, rv_1_3 F1, B1.r, kd_8 F1, decide_true, true_and]
  refine GI.use (Pg_erase_g (T := T) F1 B1.S PG8 B1.P B1.wy c1 c2) (by omega) (fun h2 e2 => ?_)
  have f2 : Fr (IXd T) JM h h2 := (e1.mono (fun a k w => Or.inr (Or.inl (by omega))) (fun _ _ w => w)).trans (e2.1.mono (fun a k w => by rcases w with w | w; exact Or.inl w; exact Or.inr (Or.inl (by omega))) (fun _ _ w => w))
  unfold OutX ansD
  by_cases q : whyR s y c = 0
  · have B2 := B1.page e2.1 (B.wy.rub c.toNat) (e2.2.1 q)
    have Z2 := Z1.fp B.t PG10 PG8 (by omega) e2.1
    simp (disch := omega) only [ix_lit, inB_lit, decide_true, Bool.true_or, Bool.or_true, true_and, and_true, kI_add, kI_sub, kI_mul, tn_add, Int.toNat_natCast, Int.reduceToNat, kI_le, kI_lt, kI_inj, decide_eq_true_eq, Bool.not_eq_true', decide_eq_false_iff_not, not_true_eq_false, not_false_eq_true, Classical.not_not, Bool.false_eq_true, if_true, if_false, z0, bI_k0, bI_k1, isB_b, isB_0, isB_1, kI_long, kd_stI, ln_stI, rv_stI, kd_1 B2.F]
    simp only [if_pos q]
    rw [if_neg (by omega)]
    refine GI.use (X_keptLeft_g B2 Z2 B.wy) (by omega) (fun h3 e3 => ?_)
    exact ⟨rfl, f2.trans (e3.1.mono (fun a k w => Or.inr (Or.inr w)) (fun _ _ w => w)), e3.2⟩
  · have B2 := B1.page e2.1 B.wy (e2.2.2 q)
    simp (disch := omega) only [ix_lit, inB_lit, decide_true, Bool.true_or, Bool.or_true, true_and, and_true, kI_add, kI_sub, kI_mul, tn_add, Int.toNat_natCast, Int.reduceToNat, kI_le, kI_lt, kI_inj, decide_eq_true_eq, Bool.not_eq_true', decide_eq_false_iff_not, not_true_eq_false, not_false_eq_true, Classical.not_not, Bool.false_eq_true, if_true, if_false, z0, bI_k0, bI_k1, isB_b, isB_0, isB_1, kI_long, kd_stI, ln_stI, rv_stI]
    simp only [if_neg q]
    rw [if_pos (by omega)]
    exact ⟨rfl, f2, _, B2⟩
theorem X_hide_g {T : Nat → Nat} {s : ST} {p : Nat} {y : DY} {v : Int} {hs : List DY} {nx : Nat} {h : AH} (B : BX T s p y v hs nx h) {c : Int} (c1 : -2147483648 ≤ c) (c2 : c ≤ 2147483647) : GI 8 m_X_hide [.ref 1, .int (kI c)] h (kI (if whyH s y c = 0 then yX y else -10 - (whyH s y c : Int))) (OutX T s p y (dHide y c.toNat) v hs (whyH s y c) h) := by
  have F := B.F
  have wl := whyH_le s y c
  refine GIo (s_X_hide_0 ?_)
  simp (disch := omega) only [kd_1 F, rv_1_4 F, rv_1_3 F, kd_10 F, decide_true, true_and]
  refine X_copy B (by omega) (fun h1 v2 e1 B1 Z1 => ?_)
  have F1 := B1.F
  simp (disch := omega) only [kd_1 F1, rv_1_3 F1, B1.r, kd_8 F1, decide_true, true_and]
  refine GI.use (Pg_conceal_g (T := T) F1 B1.S PG8 B1.P B1.wy c1 c2) (by omega) (fun h2 e2 => ?_)
  have f2 : Fr (IXd T) JM h h2 := (e1.mono (fun a k w => Or.inr (Or.inl (by omega))) (fun _ _ w => w)).trans (e2.1.mono (fun a k w => by rcases w with w | w; exact Or.inl w; exact Or.inr (Or.inl (by omega))) (fun _ _ w => w))
  unfold OutX
  by_cases q : whyH s y c = 0
  · have z := whyH_0 q
    have B2 := B1.page e2.1 (B.wy.hide (c := c.toNat) (by omega)) (e2.2.1 q)
    have Z2 := Z1.fp B.t PG10 PG8 (by omega) e2.1
    have F2 := B2.F
    simp (disch := omega) only [ix_lit, inB_lit, decide_true, Bool.true_or, Bool.or_true, true_and, and_true, kI_add, kI_sub, kI_mul, tn_add, Int.toNat_natCast, Int.reduceToNat, kI_le, kI_lt, kI_inj, decide_eq_true_eq, Bool.not_eq_true', decide_eq_false_iff_not, not_true_eq_false, not_false_eq_true, Classical.not_not, Bool.false_eq_true, if_true, if_false, z0, bI_k0, bI_k1, isB_b, isB_0, isB_1, kI_long, kd_stI, ln_stI, rv_stI, kd_1 F2, rv_1_6 F2, rv_1_4 F2, kd_14 F2]
    simp only [if_pos q]
    rw [if_pos (by omega)]
    refine GV.use (Hi_keep_g F2 B2.H PG10 (by omega) Z2) (by omega) (fun h3 e3 => ?_)
    have B3 := B2.hist e3.1 e3.2 (wh_take B.wy B.wh)
    have F3 := B3.F
    have Z3 := Z2.fr e3.1 (fun k => ⟨fun w => by unfold IH at w; omega, fun w => by unfold IH at w; omega⟩)
    simp (disch := omega) only [kd_1 F3, rv_1_4 F3, kd_10 F3, decide_true, true_and, Z3.i2]
    exact ⟨rfl, f2.trans (e3.1.mono (fun a k w => Or.inr (Or.inr w)) (fun _ _ w => w)), _, B3⟩
  · have B2 := B1.page e2.1 B.wy (e2.2.2 q)
    simp (disch := omega) only [ix_lit, inB_lit, decide_true, Bool.true_or, Bool.or_true, true_and, and_true, kI_add, kI_sub, kI_mul, tn_add, Int.toNat_natCast, Int.reduceToNat, kI_le, kI_lt, kI_inj, decide_eq_true_eq, Bool.not_eq_true', decide_eq_false_iff_not, not_true_eq_false, not_false_eq_true, Classical.not_not, Bool.false_eq_true, if_true, if_false, z0, bI_k0, bI_k1, isB_b, isB_0, isB_1, kI_long, kd_stI, ln_stI, rv_stI]
    simp only [if_neg q]
    rw [if_neg (by omega)]
    exact ⟨rfl, f2, _, B2⟩
theorem X_habit_g {T : Nat → Nat} {s : ST} {p : Nat} {y : DY} {v : Int} {hs : List DY} {nx : Nat} {h : AH} (B : BX T s p y v hs nx h) {a n : Int} (a1 : -2147483648 ≤ a) (a2 : a ≤ 2147483647) (c1 : -2147483648 ≤ n) (c2 : n ≤ 2147483647) : GI 8 m_X_habit [.ref 1, .int (kI a), .int (kI n)] h (kI (if whyB s a n = 0 then (yB y a.toNat : Int) else -11)) (OutX T s p y (dHab y a.toNat n.toNat) v hs (whyB s a n) h) := by
  have F := B.F
  have wl := whyB_le s a n
  have h4 := B.S.wf.2.2.2.2.2.1
  refine GIo (s_X_habit_0 ?_)
  simp (disch := omega) only [kd_1 F, rv_1_4 F, rv_1_3 F, kd_10 F, decide_true, true_and]
  refine X_copy B (by omega) (fun h1 v2 e1 B1 Z1 => ?_)
  have F1 := B1.F
  simp (disch := omega) only [kd_1 F1, rv_1_3 F1, B1.r, kd_8 F1, decide_true, true_and]
  refine GI.use (Pg_adopt_g (T := T) F1 B1.S PG8 B1.P a1 a2 c1 c2) (by omega) (fun h2 e2 => ?_)
  have f2 : Fr (IXd T) JM h h2 := (e1.mono (fun a k w => Or.inr (Or.inl (by omega))) (fun _ _ w => w)).trans (e2.1.mono (fun a k w => by rcases w with w | w; exact Or.inl w; exact Or.inr (Or.inl (by omega))) (fun _ _ w => w))
  unfold OutX
  by_cases q : whyB s a n = 0
  · have z := whyB_0 q
    obtain ⟨a, rfl⟩ := Int.eq_ofNat_of_zero_le z.1.1
    have B2 := B1.page e2.1 (B.wy.hab (by omega)) (e2.2.1 q)
    have Z2 := Z1.fp B.t PG10 PG8 (by omega) e2.1
    have F2 := B2.F
    simp (disch := omega) only [ix_lit, inB_lit, decide_true, Bool.true_or, Bool.or_true, true_and, and_true, kI_add, kI_sub, kI_mul, tn_add, Int.toNat_natCast, Int.reduceToNat, kI_le, kI_lt, kI_inj, decide_eq_true_eq, Bool.not_eq_true', decide_eq_false_iff_not, not_true_eq_false, not_false_eq_true, Classical.not_not, Bool.false_eq_true, if_true, if_false, z0, bI_k0, bI_k1, isB_b, isB_0, isB_1, kI_long, kd_stI, ln_stI, rv_stI, kd_1 F2, rv_1_6 F2, rv_1_4 F2, kd_14 F2]
    simp only [if_pos q]
    rw [if_pos (by omega)]
    refine GV.use (Hi_keep_g F2 B2.H PG10 (by omega) Z2) (by omega) (fun h3 e3 => ?_)
    have B3 := B2.hist e3.1 e3.2 (wh_take B.wy B.wh)
    have F3 := B3.F
    have Z3 := Z2.fr e3.1 (fun k => ⟨fun w => by unfold IH at w; omega, fun w => by unfold IH at w; omega⟩)
    simp (disch := omega) only [kd_1 F3, rv_1_4 F3, kd_10 F3, decide_true, true_and, Pg_habitOf_c F3 PG10 Z3]
    exact ⟨rfl, f2.trans (e3.1.mono (fun a k w => Or.inr (Or.inr w)) (fun _ _ w => w)), _, B3⟩
  · have B2 := B1.page e2.1 B.wy (e2.2.2 q)
    have q1 : whyB s a n = 1 := by omega
    simp (disch := omega) only [ix_lit, inB_lit, decide_true, Bool.true_or, Bool.or_true, true_and, and_true, kI_add, kI_sub, kI_mul, tn_add, Int.toNat_natCast, Int.reduceToNat, kI_le, kI_lt, kI_inj, decide_eq_true_eq, Bool.not_eq_true', decide_eq_false_iff_not, not_true_eq_false, not_false_eq_true, Classical.not_not, Bool.false_eq_true, if_true, if_false, z0, bI_k0, bI_k1, isB_b, isB_0, isB_1, kI_long, kd_stI, ln_stI, rv_stI]
    simp only [if_neg q]
    rw [if_neg (by omega), q1]
    exact ⟨rfl, f2, _, B2⟩
theorem X_undo_g {T : Nat → Nat} {s : ST} {p : Nat} {y : DY} {v : Int} {hs : List DY} {nx : Nat} {h : AH} (B : BX T s p y v hs nx h) {n : Int} (a1 : -2147483648 ≤ n) (a2 : n ≤ 2147483647) : GI 3 m_X_undo [.ref 1, .int (kI n)] h (kI (if 1 ≤ n ∧ n ≤ hs.length then (hs.length : Int) - n else -3)) (fun h' => Fr (IXd T) JM h h' ∧ ∃ nx', BX T s p (if 1 ≤ n ∧ n ≤ hs.length then hs.getD (n.toNat - 1) y0 else y) (if 1 ≤ n ∧ n ≤ hs.length then v + 1 else v) (if 1 ≤ n ∧ n ≤ hs.length then hs.drop n.toNat else hs) nx' h') := by
  have F := B.F
  have l10 := B.H.len
  refine GIo (s_X_undo_0 ?_)
  simp (disch := omega) only [kd_1 F, rv_1_6 F, kd_14 F, rv_1_3 F, ix_lit, inB_lit, decide_true, Bool.true_or, Bool.or_true, true_and, and_true, kI_add, kI_sub, kI_mul, tn_add, Int.toNat_natCast, Int.reduceToNat, kI_le, kI_lt, kI_inj, decide_eq_true_eq, Bool.not_eq_true', decide_eq_false_iff_not, not_true_eq_false, not_false_eq_true, Classical.not_not, Bool.false_eq_true, if_true, if_false, z0, bI_k0, bI_k1, isB_b, isB_0, isB_1, kI_long, kd_stI, ln_stI, rv_stI, B.H.i2]
  by_cases q1 : n < 1
  · rw [if_pos q1]
    simp only [if_neg (show ¬ (1 ≤ n ∧ n ≤ hs.length) by omega)]
    exact ⟨rfl, Fr_rfl _ _ _, _, B⟩
  · rw [if_neg q1]
    by_cases q2 : n ≤ hs.length
    · rw [if_pos q2]
      simp only [if_pos (show (1 ≤ n ∧ n ≤ hs.length) by omega)]
      obtain ⟨n, rfl⟩ := Int.eq_ofNat_of_zero_le (show 0 ≤ n by omega)
      refine GV.use (Hi_back_g F B.H (by omega) (by omega) B.P.i3) (by omega) (fun h1 e1 => ?_)
      have F1 := e1.1.fix F
      have t2 := fun a h1 h2 => B.t.two (a := a) h1 h2
      have wn := B.wh (n - 1) (by omega)
      have B1 : BX T s p (hs.getD (n - 1) y0) (v + 1) (hs.drop n) ((nx + 10 - n) % 10) h1 := by
        refine ⟨F1, B.t, by rw [e1.1.2.2.1]; exact B.r, B.S.fr e1.1 (fun a k w => ?_), e1.2.2, e1.2.1, wn, fun i hi => ?_⟩
        · rcases w with w | w
          · unfold IH at w
            have := t2 a (by omega) (by omega)
            omega
          · have := t2 a (by omega) (by omega)
            omega
        · rw [List.length_drop] at hi
          rw [getD_drop]
          exact B.wh _ (by omega)
      simp (disch := omega) only [kd_1 F1, rv_1_6 F1, kd_14 F1, decide_true, true_and, e1.2.1.i2, List.length_drop]
      refine ⟨?_, e1.1.mono (fun a k w => ?_) (fun _ _ w => w), _, B1⟩
      · congr 3
        omega
      · rcases w with w | w
        · exact Or.inr (Or.inr w)
        · exact Or.inr (Or.inl (by omega))
    · rw [if_neg q2]
      simp only [if_neg (show ¬ (1 ≤ n ∧ n ≤ hs.length) by omega)]
      exact ⟨rfl, Fr_rfl _ _ _, _, B⟩
