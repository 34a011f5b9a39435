/-! what is remembered of the paths and chances -/
def PGo (T : Nat → Nat) (s : ST) (p : Nat) (y : DY) (a b : Nat) (h : AH) : Prop := PGr T s p y a b h ∧ SlC s y a b h ∧ TyC s y a b h
def CGo (s : ST) (y : DY) (a n : Nat) (h : AH) : Prop := a < sH s ∧ n ≤ 4 ∧ ivA h 65 3 = kI a ∧ ivA h 65 4 = kI n ∧ jvA h 65 6 = kJ ((27720 ^ n : Nat) : Int) ∧ ∀ c, c < sN s → (yD y).testBit c = false → jvA h 66 c = kJ (cnF (mvF s a (yB y a)) n c (yD y) (yL y) : Nat)
def PI (T : Nat → Nat) (R : Nat → ST) (s : ST) (p : Nat) (y : DY) (v : Int) (h : AH) : Prop := (∀ i, i < 4 → PA T R i h) ∧ (R p = s) ∧ (p < 1000000) ∧ (PAs T h) ∧ (TD T h) ∧ (∃ pv : Int, ivA h 57 2 = kI pv ∧ -1 ≤ pv ∧ pv ≤ v ∧ (pv = v → ∃ a b, PGo T s p y a b h)) ∧ (∃ cv : Int, ivA h 65 2 = kI cv ∧ -1 ≤ cv ∧ cv ≤ v ∧ (cv = v → ∃ a n, CGo s y a n h))
theorem PI.pm {T : Nat → Nat} {R : Nat → ST} {s : ST} {p : Nat} {y : DY} {v : Int} {h : AH} (C : PI T R s p y v h) : ∀ i, i < 4 → PA T R i h := C.1
theorem PI.rp {T : Nat → Nat} {R : Nat → ST} {s : ST} {p : Nat} {y : DY} {v : Int} {h : AH} (C : PI T R s p y v h) : R p = s := C.2.1
theorem PI.hp {T : Nat → Nat} {R : Nat → ST} {s : ST} {p : Nat} {y : DY} {v : Int} {h : AH} (C : PI T R s p y v h) : p < 1000000 := C.2.2.1
theorem PI.X {T : Nat → Nat} {R : Nat → ST} {s : ST} {p : Nat} {y : DY} {v : Int} {h : AH} (C : PI T R s p y v h) : PAs T h := C.2.2.2.1
theorem PI.td {T : Nat → Nat} {R : Nat → ST} {s : ST} {p : Nat} {y : DY} {v : Int} {h : AH} (C : PI T R s p y v h) : TD T h := C.2.2.2.2.1
theorem PI.pc {T : Nat → Nat} {R : Nat → ST} {s : ST} {p : Nat} {y : DY} {v : Int} {h : AH} (C : PI T R s p y v h) : ∃ pv : Int, ivA h 57 2 = kI pv ∧ -1 ≤ pv ∧ pv ≤ v ∧ (pv = v → ∃ a b, PGo T s p y a b h) := C.2.2.2.2.2.1
theorem PI.cc {T : Nat → Nat} {R : Nat → ST} {s : ST} {p : Nat} {y : DY} {v : Int} {h : AH} (C : PI T R s p y v h) : ∃ cv : Int, ivA h 65 2 = kI cv ∧ -1 ≤ cv ∧ cv ≤ v ∧ (cv = v → ∃ a n, CGo s y a n h) := C.2.2.2.2.2.2
def OutG (T : Nat → Nat) (R : Nat → ST) (s : ST) (p : Nat) (y : DY) (v : Int) (h h' : AH) : Prop := FN (APt T) h h' ∧ Fix h' ∧ Rm h h' ∧ PI T R s p y v h'
theorem APt_T {T : Nat → Nat} (t : TF T) {x : Nat} (h : APt T x) : T x ≠ 0 := by
  unfold APt at h
  rcases h with h | h | h
  · omega
  · rw [T57 t (i := x) (by omega) (by omega)]; omega
  · omega
theorem APt_out {T : Nat → Nat} (t : TF T) {x : Nat} (h : APt T x) : x ≠ 1 ∧ x ≠ 2 ∧ (x < 8 ∨ 44 < x) ∧ (x < 65 ∨ 105 < x) := by
  unfold APt at h
  by_cases z : x ≤ 105
  · have := t x z
    rcases h with h | h | h
    · rw [h] at this
      by_cases q : x = 3 ∨ x = 6 ∨ x = 7
      · rw [if_pos q] at this; omega
      · rw [if_neg q] at this
        by_cases q2 : x = 5
        · omega
        · rw [if_neg q2] at this; omega
    · omega
    · omega
  · omega
theorem BX.pt {T : Nat → Nat} {s : ST} {p : Nat} {y : DY} {v : Int} {hs : List DY} {nx : Nat} {h h' : AH} (B : BX T s p y v hs nx h) (e : FN (APt T) h h') (F' : Fix h') : BX T s p y v hs nx h' := B.fn e F' (fun a z => APt_T B.t z) (fun a z => by have := APt_out B.t z; omega)
theorem CGo.fn {s : ST} {y : DY} {a n : Nat} {A : Nat → Prop} {h h' : AH} (C : CGo s y a n h) (F : Fix h) (e : FN A h h') (n1 : ¬ A 65) (n2 : ¬ A 66) : CGo s y a n h' := ⟨C.1, C.2.1, by rw [e.iv 65 (oldF F (by omega)) n1]; exact C.2.2.1, by rw [e.iv 65 (oldF F (by omega)) n1]; exact C.2.2.2.1, by rw [e.jv 65 (oldF F (by omega)) n1]; exact C.2.2.2.2.1, fun c h1 h2 => by rw [e.jv 66 (oldF F (by omega)) n2]; exact C.2.2.2.2.2 c h1 h2⟩
theorem Rm_trans {h h1 h2 : AH} (e : Rm h h1) (f : usA h2 + PhP h2 ≤ usA h1 + PhP h1) (g : szA h2 ≤ szA h1) : Rm h h2 := by
  unfold Rm at *
  omega
theorem X_begin {T : Nat → Nat} {R : Nat → ST} {s : ST} {p : Nat} {y : DY} {v : Int} {hs : List DY} {nx : Nat} {h : AH} (B : BX T s p y v hs nx h) (I : PI T R s p y v h) (v0 : 0 ≤ v) (v1 : v ≤ 2000000000) (hz : szA h < 900000) {a b : Nat} (ha : a < sH s) (hb : b < sH s) {d : Nat} (hd : 9 ≤ d) {K : AH → Prop} (H : ∀ h', OutG T R s p y v h h' → PGo T s p y a b h' → ivA h' 57 2 = kI v → K h') : CallV d m_Pa_begin [.ref 57, .ref p, .ref 8, .int (kI a), .int (kI b)] h K := by
  have F := B.F
  have n4 := B.S.wf.2.2.2.2.2.1
  obtain ⟨pv, i2, b1, b2, pg⟩ := I.pc
  have fresh : Safe 8 m_Pa_begin (29, [.ref 57, .ref p, .ref 8, .int (kI a), .int (kI b), unV], [], h) (fun x h' => Eqv x none ∧ OutG T R s p y v h h' ∧ PGo T s p y a b h' ∧ ivA h' 57 2 = kI v) := by
    have := Pa_begin_29 F B.t B.S B.wy B.P I.rp I.hp I.pm I.X I.td hz ha hb
    obtain ⟨N, n, w, h', e1, e2, e3, e4, e5, e6, e7, e8, e9, e10, e11⟩ := this
    refine ⟨N, n, w, h', e1, e2, ⟨e3, e4, e5, e7, I.rp, I.hp, e6, fun x hx => I.td x (by have := e3.sz; omega), ⟨v, e8, by omega, by omega, fun _ => ⟨a, b, e9, Or.inl e10, Or.inl e11⟩⟩, ?_⟩, ⟨e9, Or.inl e10, Or.inl e11⟩, e8⟩
    obtain ⟨cv, c1, c2, c3, c4⟩ := I.cc
    have n65 : ¬ APt T 65 := fun z => by have := APt_out B.t z; omega
    have n66 : ¬ APt T 66 := fun z => by have := APt_out B.t z; omega
    refine ⟨cv, by rw [e3.iv 65 (oldF F (by omega)) n65]; exact c1, c2, c3, fun z => ?_⟩
    obtain ⟨a', n', C⟩ := c4 z
    exact ⟨a', n', C.fn F e3 n65 n66⟩
  have all : GV 9 m_Pa_begin [.ref 57, .ref p, .ref 8, .int (kI a), .int (kI b)] h (fun h' => OutG T R s p y v h h' ∧ PGo T s p y a b h' ∧ ivA h' 57 2 = kI v) := by
    refine GVo (s_Pa_begin_0 ?_)
    rw [kd_57 F, kd_8 F, i2, B.P.i3]
    refine ⟨rfl, rfl, ?_⟩
    by_cases q : pv = v
    · rw [if_neg (by rw [q]; simp)]
      obtain ⟨a0, b0, g⟩ := pg q
      have P := g.1.H
      have h1 := P.ha
      have h2 := P.hb
      rw [P.i3, P.i4]
      refine ⟨rfl, ?_⟩
      by_cases qa : a0 = a
      · rw [if_neg (by rw [qa]; simp)]
        refine ⟨rfl, ?_⟩
        by_cases qb : b0 = b
        · rw [if_neg (by rw [qb]; simp)]
          rw [qa, qb] at g
          exact ⟨rfl, ⟨FN_rfl _ _, F, ⟨Nat.le_refl _, by omega⟩, I⟩, g, by rw [q]⟩
        · rw [if_pos (by rw [Bool.not_eq_true', decide_eq_false_iff_not, kI_inj (by omega) (by omega) (by omega) (by omega)]; omega)]
          exact fresh
      · rw [if_pos (by rw [Bool.not_eq_true', decide_eq_false_iff_not, kI_inj (by omega) (by omega) (by omega) (by omega)]; omega)]
        exact fresh
    · rw [if_pos (by rw [Bool.not_eq_true', decide_eq_false_iff_not, kI_inj (by omega) (by omega) (by omega) (by omega)]; exact q)]
      exact fresh
  exact GV.use all hd (fun h' e => H h' e.1 e.2.1 e.2.2)
/-- what is worked out on the graph keeps what is remembered -/
theorem OutG.sv {T : Nat → Nat} {R : Nat → ST} {s : ST} {p : Nat} {y : DY} {v : Int} {h h1 h2 : AH} (O : OutG T R s p y v h h1) (hz : szA h < 900000) (t : TF T) {a b : Nat} (g : PGo T s p y a b h1) (i2 : ivA h1 57 2 = kI v) (v0 : 0 ≤ v) (e : Fr (fun x k => x = rvA h1 57 11 ∨ (x = 57 ∧ 12 ≤ k) ∨ x = 63) (fun x _ => x = 57 ∨ x = 64) h1 h2) (S : SlC s y a b h2) (Ty : TyC s y a b h2) : OutG T R s p y v h h2 ∧ PGo T s p y a b h2 ∧ ivA h2 57 2 = kI v := by
  obtain ⟨e1, F1, R1, I1⟩ := O
  have P := g.1.H
  have xv := P.xv
  have v57 := P.xv.out (i := 57) (by omega) (by omega)
  have c1 : ∀ x, x = rvA h1 57 11 ∨ x = 57 ∨ x = 63 ∨ x = 64 → APt T x := fun x z => by
    have := xv
    unfold PArr at this
    have s1 := F1.2.2.2
    have s2 := R1.2
    unfold APt
    rcases z with z | z | z | z
    · subst z; omega
    · omega
    · omega
    · omega
  have en : FN (fun x => x = rvA h1 57 11 ∨ x = 57 ∨ x = 63 ∨ x = 64) h1 h2 := e.fn (fun x k z => by omega) (fun x _ z => by omega)
  have ep : FN (APt T) h1 h2 := en.mono c1
  have F2 := e.fix F1
  have rv : ∀ x k, rvA h2 x k = rvA h1 x k := fun x k => by rw [e.2.2.1]
  have g2 : PGo T s p y a b h2 := ⟨g.1.sv e, S, Ty⟩
  have j2 : ivA h2 57 2 = kI v := by rw [e.2.2.2.2.2.1 57 2 (fun z => by omega)]; exact i2
  have kl : ∀ x, old h1 x → kdA h2 x = kdA h1 x ∧ lnA h2 x = lnA h1 x := fun x o => ep.kl x o
  have nT : ∀ x, (x = rvA h1 57 11 ∨ x = 57 ∨ x = 63 ∨ x = 64) → T x ≠ 0 := fun x z => APt_T t (c1 x z)
  have out : ∀ j, j ≤ 105 → j ≠ 57 → j ≠ 63 → j ≠ 64 → (j < 59 ∨ 61 < j) → ¬ (j = rvA h1 57 11 ∨ j = 57 ∨ j = 63 ∨ j = 64) := fun j a1 a2 a3 a4 a5 z => by
    have := P.xv.out a1 a5
    omega
  refine ⟨⟨e1.trans ep, F2, ?_, fun i hi => ?_, I1.rp, I1.hp, I1.X.of (fun k _ _ => rv 57 k) kl (by rw [e.2.2.2.1]; omega), fun x hx => I1.td x (by rw [e.2.2.2.1] at hx; exact hx), ⟨v, j2, by omega, by omega, fun _ => ⟨a, b, g2⟩⟩, ?_⟩, g2, j2⟩
  · refine Rm_trans R1 ?_ (by rw [e.2.2.2.1]; omega)
    rw [PhP_of I1.X (fun k _ _ => rv 57 k) kl, e.2.2.2.2.1]
    exact Nat.le_refl _
  · exact (I1.pm i hi).fn F1 hi en nT (out _ (by omega) (by omega) (by omega) (by omega) (by omega)) (out _ (by omega) (by omega) (by omega) (by omega) (by omega)) (out _ (by omega) (by omega) (by omega) (by omega) (by omega))
  · obtain ⟨cv, c1', c2, c3, c4⟩ := I1.cc
    have n65 := out 65 (by omega) (by omega) (by omega) (by omega) (by omega)
    have n66 := out 66 (by omega) (by omega) (by omega) (by omega) (by omega)
    refine ⟨cv, by rw [en.iv 65 (oldF F1 (by omega)) n65]; exact c1', c2, c3, fun z => ?_⟩
    obtain ⟨a', n', C⟩ := c4 z
    exact ⟨a', n', C.fn F1 en n65 n66⟩
theorem X_solve {T : Nat → Nat} {R : Nat → ST} {s : ST} {p : Nat} {y : DY} {v : Int} {h h1 : AH} (O : OutG T R s p y v h h1) (hz : szA h < 900000) (t : TF T) {a b : Nat} (g : PGo T s p y a b h1) (i2 : ivA h1 57 2 = kI v) (v0 : 0 ≤ v) {aim tg : Nat} (ok : AimOk y aim tg) {d : Nat} (hd : 6 ≤ d) {K : Int32 → AH → Prop} (H : ∀ h', OutG T R s p y v h h' → PGo T s p y a b h' → Slv s y a b aim tg h' → K (kI (WT s y a b aim tg (yD y) (yL y))) h') : CallI d m_Pa_solve [.ref 57, .int (kI aim), .int (kI tg)] h1 K := by
  refine GI.use (Pa_solve_g g.1 g.2.1 ok) hd (fun h2 e2 => ?_)
  obtain ⟨e2, S2⟩ := e2
  have Ty : TyC s y a b h2 := by
    have j : ∀ x k, jvA h2 x k = jvA h1 x k := fun x k => e2.2.2.2.2.2.2 x k (fun z => z)
    have := g.2.2
    unfold TyC at *
    simp only [j]
    exact this
  have := O.sv hz t g i2 v0 (e2.mono (fun _ _ z => z) (fun _ _ z => z.elim)) (Or.inr ⟨aim, tg, S2⟩) Ty
  exact H h2 this.1 this.2.1 S2
theorem X_tally {T : Nat → Nat} {R : Nat → ST} {s : ST} {p : Nat} {y : DY} {v : Int} {h h1 : AH} (O : OutG T R s p y v h h1) (hz : szA h < 900000) (t : TF T) {a : Nat} (g : PGo T s p y a a h1) (i2 : ivA h1 57 2 = kI v) (v0 : 0 ≤ v) {d : Nat} (hd : 4 ≤ d) {K : AH → Prop} (H : ∀ h', OutG T R s p y v h h' → jvA h' 57 19 = kJ (endV s y a : Nat) → (∀ n, n < 13 → jvA h' 64 n = kJ (rowV s y a n : Nat)) → K h') : CallV d m_Pa_tally [.ref 57] h1 K := by
  refine GV.use (Pa_tally_g g.1 g.2.2) hd (fun h2 e2 => ?_)
  obtain ⟨e2, c, j19, j64⟩ := e2
  have S : SlC s y a a h2 := by
    rcases c with c | c
    · rw [c]; exact g.2.1
    · exact Or.inl c
  have := O.sv hz t g i2 v0 (e2.mono (fun x k z => by rcases z with z | z; exact Or.inl z; exact Or.inr (Or.inl ⟨z.1, by omega⟩)) (fun _ _ z => z)) S (Or.inr ⟨rfl, j19, j64⟩)
  exact H h2 this.1 j19 j64
theorem X_refusedCell_c {T : Nat → Nat} {s : ST} {p : Nat} {y : DY} {v : Int} {hs : List DY} {nx : Nat} {h : AH} (B : BX T s p y v hs nx h) {d : Nat} (hd : 2 ≤ d) {a c : Int} (a1 : -2147483648 ≤ a) (a2 : a ≤ 2147483647) (c1 : -2147483648 ≤ c) (c2 : c ≤ 2147483647) {K : Int32 → AH → Prop} : CallI d m_X_refusedCell [.ref 1, .int (kI a), .int (kI c)] h K ↔ K (kI (noG s y a c)) h := by
  have F := B.F
  have n2 := B.S.wf.n12
  have hD := B.wy.m12 B.S.wf
  refine Ret.I (d := 2) (ret_of (s_X_refusedCell_0 ?_)) hd
  unfold noG
  rw [kd_1 F, B.r, B.S.k]
  refine ⟨rfl, rfl, ?_⟩
  rw [Sh_hasHand_c B.S (by omega) a1 a2]
  by_cases q1 : 0 ≤ a ∧ a < sH s
  · rw [if_neg (by rw [dec_b0]; exact fun z => z q1), kd_1 F, B.r, B.S.k]
    refine ⟨rfl, rfl, ?_⟩
    rw [Sh_hasCell_c B.S (by omega) c1 c2]
    by_cases q2 : 0 ≤ c ∧ c < sN s
    · obtain ⟨e, rfl⟩ : ∃ e : Nat, c = e := ⟨c.toNat, by omega⟩
      rw [if_pos (by rw [Bool.not_eq_true', decide_eq_false_iff_not, bI_0]; exact fun z => z q2), if_pos ⟨q1, q2⟩, rv_1_3 F, kd_8 F, kd_1 F]
      refine ⟨rfl, rfl, ?_⟩
      rw [Pg_isDrawn_c F PG8 B.P hD (by omega) (by omega)]
      by_cases q3 : (yD y).testBit e = true
      · rw [if_neg (by rw [dec_b0]; exact fun z => z q3), Int.toNat_natCast, if_pos q3]
        exact ⟨rfl, rfl⟩
      · rw [if_pos (by rw [dec_b0]; exact q3), Int.toNat_natCast, if_neg q3]
        exact ⟨rfl, rfl⟩
    · rw [if_neg (by rw [Bool.not_eq_true', decide_eq_false_iff_not, bI_0]; exact fun z => z q2), if_neg (fun z => q2 z.2)]
      exact ⟨rfl, rfl⟩
  · rw [if_pos (by rw [dec_b0]; exact q1), if_neg (fun z => q1 z.1)]
    exact ⟨rfl, rfl⟩
/-- the state that the paths' calls need -/
def XI (T : Nat → Nat) (R : Nat → ST) (s : ST) (p : Nat) (y : DY) (v : Int) (hs : List DY) (nx : Nat) (h : AH) : Prop := (BX T s p y v hs nx h) ∧ (PI T R s p y v h) ∧ (0 ≤ v) ∧ (v ≤ 2000000000) ∧ (szA h < 900000)
theorem XI.B {T : Nat → Nat} {R : Nat → ST} {s : ST} {p : Nat} {y : DY} {v : Int} {hs : List DY} {nx : Nat} {h : AH} (C : XI T R s p y v hs nx h) : BX T s p y v hs nx h := C.1
theorem XI.I {T : Nat → Nat} {R : Nat → ST} {s : ST} {p : Nat} {y : DY} {v : Int} {hs : List DY} {nx : Nat} {h : AH} (C : XI T R s p y v hs nx h) : PI T R s p y v h := C.2.1
theorem XI.v0 {T : Nat → Nat} {R : Nat → ST} {s : ST} {p : Nat} {y : DY} {v : Int} {hs : List DY} {nx : Nat} {h : AH} (C : XI T R s p y v hs nx h) : 0 ≤ v := C.2.2.1
theorem XI.v1 {T : Nat → Nat} {R : Nat → ST} {s : ST} {p : Nat} {y : DY} {v : Int} {hs : List DY} {nx : Nat} {h : AH} (C : XI T R s p y v hs nx h) : v ≤ 2000000000 := C.2.2.2.1
theorem XI.hz {T : Nat → Nat} {R : Nat → ST} {s : ST} {p : Nat} {y : DY} {v : Int} {hs : List DY} {nx : Nat} {h : AH} (C : XI T R s p y v hs nx h) : szA h < 900000 := C.2.2.2.2
theorem OutG_rfl {T : Nat → Nat} {R : Nat → ST} {s : ST} {p : Nat} {y : DY} {v : Int} {hs : List DY} {nx : Nat} {h : AH} (X : XI T R s p y v hs nx h) : OutG T R s p y v h h := ⟨FN_rfl _ _, X.B.F, ⟨Nat.le_refl _, by omega⟩, X.I⟩
/-- the guards ahead of the paths' calls -/
theorem gd_begin {T : Nat → Nat} {s : ST} {p : Nat} {y : DY} {v : Int} {hs : List DY} {nx : Nat} {h : AH} (B : BX T s p y v hs nx h) : kdA h 1 = 11 ∧ rvA h 1 8 = 57 ∧ kdA h 57 = 4 ∧ rvA h 1 2 = p ∧ rvA h 1 3 = 8 ∧ kdA h p = 8 := ⟨kd_1 B.F, rv_1_8 B.F, kd_57 B.F, B.r, rv_1_3 B.F, B.S.k⟩
theorem X_longest_g {T : Nat → Nat} {R : Nat → ST} {s : ST} {p : Nat} {y : DY} {v : Int} {hs : List DY} {nx : Nat} {h : AH} (X : XI T R s p y v hs nx h) {a c : Int} (a1 : -2147483648 ≤ a) (a2 : a ≤ 2147483647) (c1 : -2147483648 ≤ c) (c2 : c ≤ 2147483647) : GI 10 m_X_longest [.ref 1, .int (kI a), .int (kI c)] h (kI (lonA s y 0 a c)) (OutG T R s p y v h) := by
  have B := X.B
  have nb := noG_b s y a c
  have n2 := B.S.wf.n12
  have gd := gd_begin B
  refine GIo (s_X_longest_0 ?_)
  rw [gd.1]
  refine ⟨rfl, ?_⟩
  rw [X_refusedCell_c B (by omega) a1 a2 c1 c2]
  unfold lonA scA
  by_cases q : noG s y a c = 0
  · obtain ⟨q1, q2, q3⟩ := noG_0 q
    obtain ⟨A, rfl⟩ : ∃ A : Nat, a = A := ⟨a.toNat, by omega⟩
    obtain ⟨e, rfl⟩ : ∃ e : Nat, c = e := ⟨c.toNat, by omega⟩
    rw [q, if_pos (by decide), if_pos rfl, gd.1, gd.2.1, gd.2.2.1, gd.2.2.2.1, gd.2.2.2.2.1]
    refine ⟨rfl, rfl, rfl, rfl, ?_⟩
    refine X_begin B X.I X.v0 X.v1 X.hz (by omega) (by omega) (by omega) (fun h1 O1 g1 j1 => ?_)
    have B1 := B.pt O1.1 O1.2.1
    have gd1 := gd_begin B1
    rw [gd1.1, gd1.2.1, gd1.2.2.1]
    refine ⟨rfl, rfl, ?_⟩
    refine X_solve O1 X.hz B.t g1 j1 X.v0 (aim := 0) (tg := e) ⟨by omega, by omega, by omega, fun _ => ⟨by omega, q3⟩⟩ (by omega) (fun h2 O2 g2 S2 => ?_)
    have wb := WT_01 B.S.wf (y := y) (a := A) (b := A) (tg := e) (l := yL y) (aim := 0) (Or.inl rfl) (B.wy.m12 B.S.wf)
    rw [rr_012 (by omega), Int.toNat_natCast, Int.toNat_natCast, if_neg (by omega)]
    exact ⟨rfl, O2⟩
  · rw [if_neg (by rw [decide_eq_true_eq, z0, kI_inj (by omega) (by omega) (by omega) (by omega)]; exact q), if_neg q]
    exact ⟨rfl, OutG_rfl X⟩
theorem X_soonest_g {T : Nat → Nat} {R : Nat → ST} {s : ST} {p : Nat} {y : DY} {v : Int} {hs : List DY} {nx : Nat} {h : AH} (X : XI T R s p y v hs nx h) {a c : Int} (a1 : -2147483648 ≤ a) (a2 : a ≤ 2147483647) (c1 : -2147483648 ≤ c) (c2 : c ≤ 2147483647) : GI 10 m_X_soonest [.ref 1, .int (kI a), .int (kI c)] h (kI (lonA s y 2 a c)) (OutG T R s p y v h) := by
  have B := X.B
  have nb := noG_b s y a c
  have n2 := B.S.wf.n12
  have gd := gd_begin B
  refine GIo (s_X_soonest_0 ?_)
  rw [gd.1]
  refine ⟨rfl, ?_⟩
  rw [X_refusedCell_c B (by omega) a1 a2 c1 c2]
  unfold lonA scA
  by_cases q : noG s y a c = 0
  · obtain ⟨q1, q2, q3⟩ := noG_0 q
    obtain ⟨A, rfl⟩ : ∃ A : Nat, a = A := ⟨a.toNat, by omega⟩
    obtain ⟨e, rfl⟩ : ∃ e : Nat, c = e := ⟨c.toNat, by omega⟩
    rw [q, if_pos (by decide), if_pos rfl, gd.1, gd.2.1, gd.2.2.1, gd.2.2.2.1, gd.2.2.2.2.1]
    refine ⟨rfl, rfl, rfl, rfl, ?_⟩
    refine X_begin B X.I X.v0 X.v1 X.hz (by omega) (by omega) (by omega) (fun h1 O1 g1 j1 => ?_)
    have B1 := B.pt O1.1 O1.2.1
    have gd1 := gd_begin B1
    rw [gd1.1, gd1.2.1, gd1.2.2.1]
    refine ⟨rfl, rfl, ?_⟩
    refine X_solve O1 X.hz B.t g1 j1 X.v0 (aim := 2) (tg := e) ⟨by omega, by omega, by omega, fun _ => ⟨by omega, q3⟩⟩ (by omega) (fun h2 O2 g2 S2 => ?_)
    have wb := (WT_gd B.S.wf (y := y) (a := A) (b := A) (tg := e) (l := yL y) (aim := 2) (by omega) (B.wy.m12 B.S.wf)).b
    rw [rr_012 (by omega), Int.toNat_natCast, Int.toNat_natCast]
    by_cases z : WT s y A A 2 e (yD y) (yL y) = 1048576
    · rw [if_neg (by rw [z]; decide), if_pos z]
      exact ⟨rfl, O2⟩
    · rw [if_pos (by rw [decide_eq_true_eq, kI_lt (by omega) (by omega) (by omega) (by omega)]; omega), if_neg z]
      exact ⟨rfl, O2⟩
  · rw [if_neg (by rw [decide_eq_true_eq, z0, kI_inj (by omega) (by omega) (by omega) (by omega)]; exact q), if_neg q]
    exact ⟨rfl, OutG_rfl X⟩
/-- a step, as it is answered -/
theorem step_at {s : ST} {y : DY} {a aim tg : Nat} (ha : aim ≠ 4) {i : Int} (hi : 0 ≤ i) : (if 0 ≤ i ∧ i < (trL s y a a aim tg).length then kI ((trL s y a a aim tg).getD i.toNat 0 : Nat) else kI (-1)) = kI (atA s y a aim tg i) := by
  by_cases z : WT s y a a aim tg (yD y) (yL y) = 1048576
  · have et : trL s y a a aim tg = [] := by unfold trL; rw [if_pos (Or.inr z)]
    have ea : atA s y a aim tg i = -1 := by unfold atA; rw [if_neg (fun q => q.2 z)]
    have no : ¬ (0 ≤ i ∧ i < (([] : List Nat).length : Int)) := by simp
    rw [et, ea, if_neg no]
  · have et : trL s y a a aim tg = paF s y a a aim tg := by unfold trL; rw [if_neg (by omega)]
    rw [et]
    unfold atA
    by_cases q : i < (paF s y a a aim tg).length
    · rw [if_pos (show 0 ≤ i ∧ i < (paF s y a a aim tg).length from ⟨hi, q⟩), if_pos (show i < (paF s y a a aim tg).length ∧ WT s y a a aim tg (yD y) (yL y) ≠ 1048576 from ⟨q, z⟩)]
    · rw [if_neg (show ¬ (0 ≤ i ∧ i < (paF s y a a aim tg).length) from fun w => q w.2), if_neg (show ¬ (i < (paF s y a a aim tg).length ∧ WT s y a a aim tg (yD y) (yL y) ≠ 1048576) from fun w => q w.1)]
