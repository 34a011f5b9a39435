/-! the chances of the program: begun, and kept -/
def ACh (T : Nat → Nat) (x : Nat) : Prop := T x = 1 ∨ (45 ≤ x ∧ x ≤ 56) ∨ x = 65 ∨ x = 66
theorem Ch_begin_29 {T : Nat → Nat} {R : Nat → ST} {s : ST} {p : Nat} {y : DY} {v : Int} {h : AH} (F : Fix h) (t : TF T) (S : XS T s p h) (wy : WFY s y) (Pg : XP y v 8 h) (rp : R p = s) (hp : p < 1000000) (Pm : ∀ i, i < 4 → PA T R i h) {a n : Nat} (ha : a < sH s) (hn : n ≤ 4) : Safe 10 m_Ch_begin (29, [.ref 65, .ref p, .ref 8, .int (kI a), .int (kI n), unV], [], h) (fun x h' => Eqv x none ∧ FN (ACh T) h h' ∧ Fix h' ∧ szA h' = szA h ∧ usA h' = usA h ∧ (∀ i, i < 4 → PA T R i h') ∧ ivA h' 65 2 = kI v ∧ CGo s y a n h') := by
  have w := S.wf
  have n2 := w.n12
  have n4 := w.2.2.2.2.2.1
  have hD := wy.m12 w
  have ybA := wy.2.2.2.2
  have tw : ∀ x, x ≤ 105 → ¬ (x = 3 ∨ x = 5 ∨ x = 6 ∨ x = 7) → T x = 2 := fun x h1 h2 => t.two h1 h2
  have t65 := tw 65 (by omega) (by omega)
  have t66 := tw 66 (by omega) (by omega)
  have t8 := tw 8 (by omega) (by omega)
  refine s_Ch_begin_29 ?_
  simp only [kd_stI, kd_stR, iv_stR, kd_65 F, kd_8 F, Pg.i3]
  refine ⟨rfl, rfl, rfl, rfl, rfl, rfl, ?_⟩
  obtain ⟨h0, h0e⟩ : ∃ h0, h0 = stR h 65 1 p := ⟨_, rfl⟩
  have e0 : FN (fun x => x = 65) h h0 := by rw [h0e]; exact FN_stR rfl
  have F0 : Fix h0 := by rw [h0e]; exact fix_stR F rvT_65
  have r0 : rvA h0 65 1 = p := by rw [h0e, rv_stR, if_pos ⟨rfl, rfl⟩]
  have z0' : szA h0 = szA h ∧ usA h0 = usA h := by rw [h0e]; exact ⟨rfl, rfl⟩
  rw [← h0e]
  obtain ⟨hA, hAe⟩ : ∃ hA, hA = stI (stI (stI h0 65 2 (kI v)) 65 3 (kI a)) 65 4 (kI n) := ⟨_, rfl⟩
  have eA : Fr (fun x _ => x = 65) I0 h0 hA := by rw [hAe]; exact (((Fr_rfl (fun x _ => x = 65) I0 h0).stI rfl _).stI rfl _).stI rfl _
  have FA := eA.fix F0
  have iA : ivA hA 65 2 = kI v ∧ ivA hA 65 3 = kI a ∧ ivA hA 65 4 = kI n := by
    rw [hAe]
    refine ⟨?_, ?_, ?_⟩
    · rw [iv_stI, if_neg (by omega), iv_stI, if_neg (by omega), iv_stI, if_pos ⟨rfl, rfl⟩]
    · rw [iv_stI, if_neg (by omega), iv_stI, if_pos ⟨rfl, rfl⟩]
    · rw [iv_stI, if_pos ⟨rfl, rfl⟩]
  rw [← hAe, rv_65_5 FA]
  refine GV.use (Ar_fill_g (kd_66 FA) (ln_66 FA) (by omega) (kJ 0)) (by omega) (fun hB eB => ?_)
  obtain ⟨eB, JB⟩ := eB
  have FB := eB.fix FA
  rw [kd_65 FB]
  refine ⟨rfl, ?_⟩
  obtain ⟨hC, hCe⟩ : ∃ hC, hC = stJ hB 65 6 (kJ 1) := ⟨_, rfl⟩
  have eC : Fr I0 (fun x _ => x = 65) hB hC := by rw [hCe]; exact (Fr_rfl I0 (fun x _ => x = 65) hB).stJ rfl _
  have jC : jvA hC 65 6 = kJ 1 := by rw [hCe, jv_stJ, if_pos ⟨rfl, rfl⟩]
  rw [← hCe]
  suffices H : ∀ k, k ≤ n → ∀ h2, Fr I0 (fun x _ => x = 65) hB h2 → jvA h2 65 6 = kJ ((27720 ^ k : Nat) : Int) → Safe 10 m_Ch_begin (69, [.ref 65, unV, .ref 8, .int (kI a), .int (kI n), .int (kI k)], [], h2) (fun x h' => Eqv x none ∧ FN (ACh T) h h' ∧ Fix h' ∧ szA h' = szA h ∧ usA h' = usA h ∧ (∀ i, i < 4 → PA T R i h') ∧ ivA h' 65 2 = kI v ∧ CGo s y a n h') by
    exact H 0 (by omega) hC eC jC
  refine down_ind n ?_ ?_
  · intro h2 e2 j2
    have F2 := e2.fix FB
    -- from h to here
    have c1 : Fr I0 (fun x _ => x = 65 ∨ x = 66) hA h2 := (eB.mono (fun _ _ z => z) (fun x _ z => Or.inr z)).trans (e2.mono (fun _ _ z => z) (fun x _ z => Or.inl z))
    have c2 : FN (fun x => x = 65 ∨ x = 66) h h2 := (e0.mono (fun _ z => Or.inl z)).trans ((eA.fn (fun x _ z => Or.inl z) (fun _ _ z => z.elim)).trans (c1.fn (fun _ _ z => z.elim) (fun x _ z => z)))
    have nT : ∀ x, (x = 65 ∨ x = 66) → T x ≠ 0 := fun x z => by rcases z with z | z <;> rw [z] <;> omega
    have S2 := S.fn c2 nT
    have Pg2 : XP y v 8 h2 := Pg.fn F c2 (by omega) (by omega) (by omega)
    have Pm2 : ∀ i, i < 4 → PA T R i h2 := fun i hi => (Pm i hi).fn F hi c2 nT (by omega) (by omega) (by omega)
    have iv2 : ∀ k, ivA h2 65 k = ivA hA 65 k := fun k => c1.2.2.2.2.2.1 65 k (fun z => z)
    have r2 : rvA h2 65 1 = p := by rw [c1.2.2.1, eA.2.2.1]; exact r0
    have j66 : ∀ j, j < 12 → jvA h2 66 j = kJ 0 := fun j hj => by rw [e2.2.2.2.2.2.2 66 j (by omega)]; exact JB j hj
    have pf := pe_fix F2 (show a < 4 by omega)
    refine s_Ch_begin_69 ?_
    rw [if_pos (by rw [decide_eq_true_eq, kI_le (by omega) (by omega) (by omega) (by omega)]; omega), kd_65 F2, rv_65_0 F2, kd_44 F2, ln_44 F2, kd_8 F2, ix_kI (by omega), pf.1, r2]
    refine ⟨rfl, rfl, rfl, inB_kI (by omega) (by omega), rfl, rfl, ?_⟩
    rw [Pg_habitOf_c F2 PG8 Pg2 (by omega) (by omega), pf.2.1]
    refine ⟨rfl, ?_⟩
    refine GV.use (Pe_serve_g t F2 (show a < 4 by omega) (ybA a) (Pm2 a (by omega)) hp rp S2) (by omega) (fun h3 e3 => ?_)
    obtain ⟨e3, F3, sz3, us3, ask3, hol3, PS3⟩ := e3
    have o2 : ∀ x, x ≤ 105 → old h2 x := fun x hx => oldF F2 hx
    have n65 : ¬ APe a 65 := by unfold APe; omega
    have n66 : ¬ APe a 66 := by unfold APe; omega
    have Pg3 : XP y v 8 h3 := Pg2.fn F2 e3 (by omega) (by unfold APe; omega) (by unfold APe; omega)
    have j36 : jvA h3 65 6 = kJ ((27720 ^ n * 1 : Nat) : Int) := by rw [e3.jv 65 (o2 65 (by omega)) n65, j2, Nat.mul_one]
    rw [kd_8 F3, kd_65 F3, Pg3.i0, Pg3.i1, j36]
    refine ⟨rfl, rfl, rfl, rfl, ?_⟩
    have p4 := p27 hn
    have iv3 : ∀ k, ivA h3 65 k = ivA hA 65 k := fun k => by rw [e3.iv 65 (o2 65 (by omega)) n65, iv2]
    refine GV.use (Ch_spread_g t (show a < 4 by omega) (ybA a) n hn (yD y) (yL y) 1 h3 F3 (by rw [e3.rv 65 (o2 65 (by omega)) n65]; exact r2) (by rw [iv3]; exact iA.2.1) ⟨ask3, hol3, PS3⟩ wy.1 wy.2.1 (by omega)) (by omega) (fun h4 e4 => ?_)
    obtain ⟨e4, P4, J4⟩ := e4
    have iv4 : ∀ k, ivA h4 65 k = ivA hA 65 k := fun k => by rw [e4.2.2.2.2.2.1 65 k (by omega), iv3]
    have tot : FN (fun x => T x = 1 ∨ x = 65 ∨ x = 66 ∨ APe a x) h h4 := (c2.mono (fun x z => by rcases z with z | z; exact Or.inr (Or.inl z); exact Or.inr (Or.inr (Or.inl z)))).trans ((e3.mono (fun x z => Or.inr (Or.inr (Or.inr z)))).trans (e4.fn (fun x _ z => Or.inl z) (fun x _ z => by unfold APe; omega)))
    have nA : ∀ x, (T x = 1 ∨ x = 65 ∨ x = 66 ∨ APe a x) → T x ≠ 0 := fun x z => by
      rcases z with z | z | z | z
      · omega
      · rw [z]; omega
      · rw [z]; omega
      · have := tw x (by unfold APe at z; omega) (by unfold APe at z; omega)
        omega
    have sz4 : szA h4 = szA h := by rw [e4.2.2.2.1, sz3, c1.2.2.2.1, eA.2.2.2.1]; exact z0'.1
    have us4 : usA h4 = usA h := by rw [e4.2.2.2.2.1, us3, c1.2.2.2.2.1, eA.2.2.2.2.1]; exact z0'.2
    refine ⟨rfl, tot.mono (fun x z => ?_), e4.fix F3, sz4, us4, fun i hi => ?_, by rw [iv4]; exact iA.1, ha, hn, by rw [iv4]; exact iA.2.1, by rw [iv4]; exact iA.2.2, ?_, fun c hc hu => ?_⟩
    · unfold ACh
      unfold APe at z
      omega
    · by_cases z : i = a
      · rw [z]; exact P4.pa hp rp (ybA a)
      · have u := fun x (h1 : x ≤ 56) (h2 : 45 ≤ x) => tw x (by omega) (by omega)
        have u1 := u (45 + 3 * i) (by omega) (by omega)
        have u2 := u (46 + 3 * i) (by omega) (by omega)
        have u3 := u (47 + 3 * i) (by omega) (by omega)
        exact (Pm i hi).fn F hi tot nA (by unfold APe; omega) (by unfold APe; omega) (by unfold APe; omega)
    · rw [e4.2.2.2.2.2.2 65 6 (by omega), j36, Nat.mul_one]
    · rw [J4, e3.jv 66 (o2 66 (by omega)) n66, j66 c (by omega), Nat.one_mul]
      unfold cdF
      rw [if_pos ⟨hc, hu⟩, kJ_add, Int.zero_add]
  · intro k hk ih h2 e2 j2
    have F2 := e2.fix FB
    refine s_Ch_begin_69 ?_
    rw [if_neg (by rw [decide_eq_true_eq, kI_le (by omega) (by omega) (by omega) (by omega)]; omega), kd_65 F2, j2, kJ_mul, kI_add]
    refine ⟨rfl, rfl, ?_⟩
    refine ih _ (e2.stJ rfl _) ?_
    rw [jv_stJ, if_pos ⟨rfl, rfl⟩, Nat.pow_succ]
    rfl
def OutCh (T : Nat → Nat) (R : Nat → ST) (s : ST) (p : Nat) (y : DY) (v : Int) (h h' : AH) : Prop := FN (ACh T) h h' ∧ Fix h' ∧ (szA h' = szA h ∧ usA h' = usA h ∧ PhP h' = PhP h) ∧ PI T R s p y v h'
theorem ACh_T {T : Nat → Nat} (t : TF T) {x : Nat} (h : ACh T x) : T x ≠ 0 := by
  unfold ACh at h
  rcases h with h | h
  · omega
  · rw [t.two (a := x) (by omega) (by omega)]; omega
theorem ACh_out {T : Nat → Nat} (t : TF T) {x : Nat} (h : ACh T x) : x ≠ 1 ∧ x ≠ 2 ∧ (x < 8 ∨ 44 < x) ∧ (x < 57 ∨ 64 < x) ∧ (x < 67 ∨ 105 < x) := by
  by_cases z : x ≤ 105
  · have := t x z
    unfold ACh at h
    rcases h with h | h
    · rw [h] at this
      by_cases q : x = 3 ∨ x = 6 ∨ x = 7
      · rw [if_pos q] at this; omega
      · rw [if_neg q] at this
        by_cases q2 : x = 5
        · omega
        · rw [if_neg q2] at this; omega
    · omega
  · omega
theorem BX.ch {T : Nat → Nat} {s : ST} {p : Nat} {y : DY} {v : Int} {hs : List DY} {nx : Nat} {h h' : AH} (B : BX T s p y v hs nx h) (e : FN (ACh T) h h') (F' : Fix h') : BX T s p y v hs nx h' := B.fn e F' (fun a z => ACh_T B.t z) (fun a z => by have := ACh_out B.t z; omega)
theorem OutCh_rfl {T : Nat → Nat} {R : Nat → ST} {s : ST} {p : Nat} {y : DY} {v : Int} {hs : List DY} {nx : Nat} {h : AH} (X : XI T R s p y v hs nx h) : OutCh T R s p y v h h := ⟨FN_rfl _ _, X.B.F, ⟨rfl, rfl, rfl⟩, X.I⟩
theorem X_cbegin {T : Nat → Nat} {R : Nat → ST} {s : ST} {p : Nat} {y : DY} {v : Int} {hs : List DY} {nx : Nat} {h : AH} (X : XI T R s p y v hs nx h) {a n : Nat} (ha : a < sH s) (hn : n ≤ 4) {d : Nat} (hd : 11 ≤ d) {K : AH → Prop} (H : ∀ h', OutCh T R s p y v h h' → CGo s y a n h' → K h') : CallV d m_Ch_begin [.ref 65, .ref p, .ref 8, .int (kI a), .int (kI n)] h K := by
  have B := X.B
  have I := X.I
  have F := B.F
  have v0 := X.v0
  have v1 := X.v1
  have n4 := B.S.wf.2.2.2.2.2.1
  obtain ⟨cv, i2, b1, b2, pg⟩ := I.cc
  have fresh : Safe 10 m_Ch_begin (29, [.ref 65, .ref p, .ref 8, .int (kI a), .int (kI n), unV], [], h) (fun x h' => Eqv x none ∧ OutCh T R s p y v h h' ∧ CGo s y a n h') := by
    have := Ch_begin_29 F B.t B.S B.wy B.P I.rp I.hp I.pm ha hn
    obtain ⟨N, n', w, h', e1, e2, e3, e4, e5, e6, e7, e8, e9⟩ := this
    have no57 : ∀ x, 57 ≤ x → x ≤ 64 → ¬ ACh T x := fun x h1 h2 z => by have := ACh_out B.t z; omega
    have r57 := e3.rv 57 (oldF F (by omega)) (no57 57 (by omega) (by omega))
    have i57 := e3.iv 57 (oldF F (by omega)) (no57 57 (by omega) (by omega))
    have kl : ∀ x, old h x → kdA h' x = kdA h x ∧ lnA h' x = lnA h x := fun x o => e3.kl x o
    refine ⟨N, n', w, h', e1, e2, ⟨e3, e4, ⟨e5, e6, PhP_of I.X (fun k _ _ => r57 k) kl⟩, e7, I.rp, I.hp, I.X.of (fun k _ _ => r57 k) kl (by omega), fun x hx => I.td x (by omega), ?_, ⟨v, e8, by omega, by omega, fun _ => ⟨a, n, e9⟩⟩⟩, e9⟩
    obtain ⟨pv, c1, c2, c3, c4⟩ := I.pc
    refine ⟨pv, by rw [i57]; exact c1, c2, c3, fun z => ?_⟩
    obtain ⟨a', b', C⟩ := c4 z
    refine ⟨a', b', C.fn e3 e4 (fun x z => ?_)⟩
    have o := ACh_out B.t z
    unfold ACh at z
    unfold PFrg
    rcases z with z | z
    · exact Or.inl z
    · exact Or.inr ⟨by rw [B.t.two (a := x) (by omega) (by omega)]; omega, by omega, by omega⟩
  have all : GV 11 m_Ch_begin [.ref 65, .ref p, .ref 8, .int (kI a), .int (kI n)] h (fun h' => OutCh T R s p y v h h' ∧ CGo s y a n h') := by
    refine GVo (s_Ch_begin_0 ?_)
    rw [kd_65 F, kd_8 F, i2, B.P.i3]
    refine ⟨rfl, rfl, ?_⟩
    by_cases q : cv = v
    · rw [if_neg (by rw [q]; simp)]
      obtain ⟨a0, n0, g⟩ := pg q
      have h1 := g.1
      have h2 := g.2.1
      rw [g.2.2.1, g.2.2.2.1]
      refine ⟨rfl, ?_⟩
      by_cases qa : a0 = a
      · rw [if_neg (by rw [qa]; simp)]
        refine ⟨rfl, ?_⟩
        by_cases qb : n0 = n
        · rw [if_neg (by rw [qb]; simp)]
          rw [qa, qb] at g
          exact ⟨rfl, OutCh_rfl X, g⟩
        · rw [if_pos (by rw [Bool.not_eq_true', decide_eq_false_iff_not, kI_inj (by omega) (by omega) (by omega) (by omega)]; omega)]
          exact fresh
      · rw [if_pos (by rw [Bool.not_eq_true', decide_eq_false_iff_not, kI_inj (by omega) (by omega) (by omega) (by omega)]; omega)]
        exact fresh
    · rw [if_pos (by rw [Bool.not_eq_true', decide_eq_false_iff_not, kI_inj (by omega) (by omega) (by omega) (by omega)]; exact q)]
      exact fresh
  exact GV.use all hd (fun h' e => H h' e.1 e.2)
