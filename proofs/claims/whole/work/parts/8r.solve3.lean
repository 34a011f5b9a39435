/-! tracing and solving -/
def trL (s : ST) (y : DY) (a b aim tg : Nat) : List Nat := if aim = 4 ∨ WT s y a b aim tg (yD y) (yL y) = 1048576 then [] else paF s y a b aim tg
theorem trL_le (s : ST) (y : DY) (a b aim tg : Nat) : (trL s y a b aim tg).length ≤ 12 := by
  unfold trL
  split
  · exact Nat.zero_le _
  · exact pa_le s y a b aim tg
abbrev FTr (h h' : AH) : Prop := Fr (fun x k => (x = 57 ∧ k = 17) ∨ x = 63) I0 h h'
theorem PHd.tr {T : Nat → Nat} {s : ST} {p : Nat} {y : DY} {a b ar mo va : Nat} {h h' : AH} (P : PHd T s p y a b ar mo va h) (e : FTr h h') : PHd T s p y a b ar mo va h' := P.fr e (fun x k z => by
  have t57 := T57 P.t (i := 57) (by omega) (by omega)
  have t63 := T57 P.t (i := 63) (by omega) (by omega)
  rcases z with z | z
  · rw [z.1]; exact ⟨by omega, by omega, fun _ => by omega⟩
  · rw [z]; exact ⟨by omega, by omega, fun z => by omega⟩)
theorem getD_cons_drop {pa : List Nat} {i c : Nat} {q : List Nat} (h : c :: q = pa.drop i) : i < pa.length ∧ pa.getD i 0 = c ∧ pa.drop (i + 1) = q := by
  have i1 : i < pa.length := by
    have := congrArg List.length h
    rw [List.length_drop, List.length_cons] at this
    omega
  have e1 : pa.drop i = pa.getD i 0 :: pa.drop (i + 1) := by
    rw [List.drop_eq_getElem_cons i1]
    congr 1
    rw [List.getD_eq_getElem?_getD, List.getElem?_eq_getElem i1]
    rfl
  rw [← h] at e1
  have := List.cons.inj e1
  exact ⟨i1, this.1.symm, this.2.symm⟩
theorem Pa_trace_g {T : Nat → Nat} {s : ST} {p : Nat} {y : DY} {a b ar mo va aim tg : Nat} {h : AH} (P : PHd T s p y a b ar mo va h) (O : ∀ c, c < sN s → ivA h 62 c = kI (odF s y c)) (i12 : ivA h 57 12 = kI aim) (i13 : ivA h 57 13 = kI tg) (i14 : ivA h 57 14 = kI (WT s y a b aim tg (yD y) (yL y))) (ok : AimOk y aim tg) (M : MovOk s y a b mo (2 ^ sN s) h) (V : ValOk s y a b aim tg va 0 h) : GV 4 m_Pa_trace [.ref 57] h (fun h' => FTr h h' ∧ ivA h' 57 17 = kI ((trL s y a b aim tg).length : Int) ∧ ∀ i, i < (trL s y a b aim tg).length → ivA h' 63 i = kI ((trL s y a b aim tg).getD i 0 : Nat)) := by
  have F := P.F
  have w := P.S.wf
  have pn := P.n
  have n2 := w.n12
  have hD := P.wy.m12 w
  have rg := WT_rng w (y := y) (a := a) (b := b) (aim := aim) (tg := tg) (l := yL y) ok.1 ok.2.2.1 hD
  have oa := ok.1
  refine GVo (s_Pa_trace_0 ?_)
  have e0 : FTr h (stI h 57 17 (kI 0)) := (Fr_rfl (fun x k => (x = 57 ∧ k = 17) ∨ x = 63) I0 h).stI (Or.inl ⟨rfl, rfl⟩) _
  have c0 : ∀ k, k ≠ 17 → ivA (stI h 57 17 (kI 0)) 57 k = ivA h 57 k := fun k hk => by rw [iv_stI, if_neg (fun z => hk z.2)]
  rw [kd_57 F, kd_stI, kd_57 F, c0 12 (by omega), c0 14 (by omega), c0 5 (by omega), c0 7 (by omega), i12, i14, P.i5, P.i7]
  refine ⟨rfl, rfl, ?_⟩
  have nil_ok : trL s y a b aim tg = [] → Eqv none none ∧ FTr h (stI h 57 17 (kI 0)) ∧ ivA (stI h 57 17 (kI 0)) 57 17 = kI ((trL s y a b aim tg).length : Int) ∧ ∀ i, i < (trL s y a b aim tg).length → ivA (stI h 57 17 (kI 0)) 63 i = kI ((trL s y a b aim tg).getD i 0 : Nat) := fun z => by
    rw [z]
    exact ⟨rfl, e0, by rw [iv_stI, if_pos ⟨rfl, rfl⟩]; rfl, fun i hi => absurd hi (Nat.not_lt_zero _)⟩
  by_cases q4 : aim = 4
  · rw [if_pos (by rw [q4]; decide)]
    exact nil_ok (by unfold trL; rw [if_pos (Or.inl q4)])
  · rw [if_neg (by rw [decide_eq_true_eq, kI_inj (by omega) (by omega) (by omega) (by omega)]; omega)]
    refine ⟨rfl, ?_⟩
    by_cases qn : WT s y a b aim tg (yD y) (yL y) = 1048576
    · rw [if_neg (by rw [decide_eq_true_eq, kI_lt (by omega) (by omega) (by omega) (by omega)]; omega)]
      exact nil_ok (by unfold trL; rw [if_pos (Or.inr qn)])
    · rw [if_pos (by rw [decide_eq_true_eq, kI_lt (by omega) (by omega) (by omega) (by omega)]; omega)]
      refine ⟨rfl, rfl, ?_⟩
      have et : trL s y a b aim tg = paF s y a b aim tg := by unfold trL; rw [if_neg (by omega)]
      obtain ⟨pa, hpa⟩ : ∃ pa, pa = paF s y a b aim tg := ⟨_, rfl⟩
      rw [et, ← hpa]
      have ple : pa.length ≤ 12 := by rw [hpa]; exact pa_le s y a b aim tg
      suffices H : ∀ i, i ≤ 12 → ∀ (m l : Nat) (h2 : AH), FTr h h2 → 0 < Wy s y a b tt1 m l → (¬ byd y aim tg m ∨ endB y aim tg m = true) → ptF s y a b aim tg (12 - i) m l = pa.drop i → i ≤ pa.length → ivA h2 57 17 = kI i → (∀ j, j < i → ivA h2 63 j = kI (pa.getD j 0 : Nat)) → Safe 3 m_Pa_trace (35, [.ref 57, .int (kI m), .int (kI (rnk s l : Nat)), .int (kI i), unV], [], h2) (fun v h' => Eqv v none ∧ FTr h h' ∧ ivA h' 57 17 = kI (pa.length : Int) ∧ ∀ i, i < pa.length → ivA h' 63 i = kI (pa.getD i 0 : Nat)) by
        refine H 0 (by omega) (yD y) (yL y) _ e0 (CW_pos.mpr (Or.inl ⟨rfl, rfl⟩)) (Or.inl (fun z => ?_)) (by rw [hpa]; rfl) (by omega) (by rw [iv_stI, if_pos ⟨rfl, rfl⟩]; rfl) (fun j hj => by omega)
        rcases z with z | z
        · rw [(ok.2.2.2 z.1).2] at z; cases z.2
        · omega
      refine down_ind 12 ?_ ?_
      · intro m l h2 e2 hw nb hq il i17 st
        have P2 := P.tr e2
        refine s_Pa_trace_35 ?_
        rw [kd_57 P2.F, rv_57_16 P2.F, kd_63 P2.F, ln_63 P2.F, if_pos (by decide)]
        have : pa.length = 12 := by omega
        exact ⟨rfl, rfl, rfl, e2, by rw [i17, this], fun i hi => st i (by omega)⟩
      · intro i hi ih m l h2 e2 hw nb hq il i17 st
        have P2 := P.tr e2
        have F2 := P2.F
        have wl := Wy_l w P.wy hw
        have na := P.xa
        have nm := P.xm
        have nv := P.xv
        have iv2 : ∀ x k, x ≠ 63 → (x ≠ 57 ∨ k ≠ 17) → ivA h2 x k = ivA h x k := fun x k h1 h3 => e2.2.2.2.2.2.1 x k (fun z => by omega)
        refine s_Pa_trace_35 ?_
        rw [kd_57 F2, rv_57_16 F2, kd_63 F2, ln_63 F2, if_neg (by rw [decide_eq_true_eq, kI_le (by omega) (by omega) (by omega) (by omega)]; omega)]
        refine ⟨rfl, rfl, rfl, ?_⟩
        rw [Pa_nextStep_c P2 (fun c hc => by rw [iv2 62 c (by omega) (by omega)]; exact O c hc) (by rw [iv2 57 12 (by omega) (by omega)]; exact i12) (by rw [iv2 57 13 (by omega) (by omega)]; exact i13) ok (by omega) (fun m l h1 h3 => by rw [iv2 mo _ (nm.out (by omega) (by omega)) (Or.inl (nm.out (by omega) (by omega)))]; exact M m l h1 h3) (fun m l h1 h3 h4 => by rw [iv2 va _ (nv.out (by omega) (by omega)) (Or.inl (nv.out (by omega) (by omega)))]; exact V m l h1 h3 h4) (by omega) hw nb]
        obtain ⟨k0, hk0⟩ : ∃ k0, 12 - i = k0 + 1 := ⟨11 - i, by omega⟩
        rw [hk0, ptF_s] at hq
        have fin : pa.drop i = [] → Eqv none none ∧ FTr h h2 ∧ ivA h2 57 17 = kI (pa.length : Int) ∧ ∀ i, i < pa.length → ivA h2 63 i = kI (pa.getD i 0 : Nat) := fun z => by
          have : pa.length = i := by
            have := congrArg List.length z
            rw [List.length_drop] at this
            simp at this
            omega
          exact ⟨rfl, e2, by rw [i17, this], fun j hj => st j (by omega)⟩
        by_cases he : endB y aim tg m = true
        · rw [if_pos he] at hq
          have : nsI s y a b aim tg m l = -1 := by unfold nsI; rw [if_pos he]
          rw [this, if_neg (by decide)]
          exact fin hq.symm
        · rw [if_neg he] at hq
          cases ec : fsF (ldB s y a b aim tg m l) 0 12 with
          | none =>
            have ns : nsI s y a b aim tg m l = -1 := by unfold nsI; rw [if_neg he, ec]
            rw [ec] at hq
            rw [ns, if_neg (by decide)]
            exact fin hq.symm
          | some c =>
            have ns : nsI s y a b aim tg m l = (c : Int) := by unfold nsI; rw [if_neg he, ec]
            rw [ec] at hq
            obtain ⟨i1, getc, drc⟩ := getD_cons_drop hq
            obtain ⟨s1, s2, s3, s4, s5⟩ := step_of w ec
            have c12 : c < 12 := by omega
            rw [ns, if_pos (by rw [Bool.not_eq_true', decide_eq_false_iff_not, kI_inj (by omega) (by omega) (by omega) (by omega)]; omega), kd_57 F2, rv_57_16 F2, kd_63 F2, ln_63 F2, ix_kI (by omega), kd_stI, kd_57 F2, kd_stI, kd_stI, kd_57 F2, kI_add]
            refine ⟨rfl, rfl, inB_kI (by omega) hi, rfl, rfl, ?_⟩
            have e3 : FTr h2 (stI (stI h2 63 i (kI c)) 57 17 (kI ((i : Int) + 1))) := ((Fr_rfl (fun x k => (x = 57 ∧ k = 17) ∨ x = 63) I0 h2).stI (Or.inr rfl) _).stI (Or.inl ⟨rfl, rfl⟩) _
            have P3 := P2.tr e3
            rw [Pa_rankOf_c P3 (by omega) c12, kI_shl1 (by omega), kI_or]
            refine ih (m ||| 2 ^ c) c _ (e2.trans e3) (CW_step (mvG_ok w y a b) (by omega) hw s3 rfl) ?_ (by rw [drc, show 12 - (i + 1) = k0 by omega]) (by omega) (by rw [iv_stI, if_pos ⟨rfl, rfl⟩]; rfl) (fun j hj => ?_)
            · have nby : ¬ byd y aim tg m := by
                rcases nb with z | z
                · exact z
                · exact absurd z he
              by_cases z2 : aim = 2 ∧ c = tg
              · right
                unfold endB
                rw [z2.1, ← z2.2, or_self_bit]; rfl
              · left
                intro z
                rcases z with z | z
                · have mt : m.testBit tg = false := by
                    cases zz : m.testBit tg
                    · rfl
                    · exact absurd (Or.inl ⟨z.1, zz⟩) nby
                  have t2 := z.2
                  rw [Nat.testBit_or, mt, two_bit] at t2
                  simp at t2
                  rcases z.1 with z0 | z0
                  · exact s4 z0 t2
                  · exact z2 ⟨z0, t2⟩
                · have pc := pop_or c12 s2
                  have px := pop_xor wl.2.2
                  have he' : endB y aim tg m = false := by simpa using he
                  unfold endB at he'
                  rw [z.1] at he'
                  have : ¬ pop m - pop (yD y) = tg := by simpa using he'
                  unfold byd at nby
                  omega
            · rw [iv_stI, if_neg (by omega), iv_stI]
              by_cases z : j = i
              · rw [if_pos ⟨rfl, z⟩, z, getc]
              · rw [if_neg (fun q => z q.2)]
                exact st j (by omega)
def Slv (s : ST) (y : DY) (a : Nat) (b : Nat) (aim : Nat) (tg : Nat) (h : AH) : Prop := (AimOk y aim tg) ∧ (ivA h 57 12 = kI aim) ∧ (ivA h 57 13 = kI tg) ∧ (ivA h 57 14 = kI (WT s y a b aim tg (yD y) (yL y))) ∧ (ValOk s y a b aim tg (rvA h 57 11) 0 h) ∧ (ivA h 57 17 = kI ((trL s y a b aim tg).length : Int)) ∧ (∀ i, i < (trL s y a b aim tg).length → ivA h 63 i = kI ((trL s y a b aim tg).getD i 0 : Nat))
theorem Slv.ok {s : ST} {y : DY} {a : Nat} {b : Nat} {aim : Nat} {tg : Nat} {h : AH} (C : Slv s y a b aim tg h) : AimOk y aim tg := C.1
theorem Slv.i12 {s : ST} {y : DY} {a : Nat} {b : Nat} {aim : Nat} {tg : Nat} {h : AH} (C : Slv s y a b aim tg h) : ivA h 57 12 = kI aim := C.2.1
theorem Slv.i13 {s : ST} {y : DY} {a : Nat} {b : Nat} {aim : Nat} {tg : Nat} {h : AH} (C : Slv s y a b aim tg h) : ivA h 57 13 = kI tg := C.2.2.1
theorem Slv.i14 {s : ST} {y : DY} {a : Nat} {b : Nat} {aim : Nat} {tg : Nat} {h : AH} (C : Slv s y a b aim tg h) : ivA h 57 14 = kI (WT s y a b aim tg (yD y) (yL y)) := C.2.2.2.1
theorem Slv.V {s : ST} {y : DY} {a : Nat} {b : Nat} {aim : Nat} {tg : Nat} {h : AH} (C : Slv s y a b aim tg h) : ValOk s y a b aim tg (rvA h 57 11) 0 h := C.2.2.2.2.1
theorem Slv.i17 {s : ST} {y : DY} {a : Nat} {b : Nat} {aim : Nat} {tg : Nat} {h : AH} (C : Slv s y a b aim tg h) : ivA h 57 17 = kI ((trL s y a b aim tg).length : Int) := C.2.2.2.2.2.1
theorem Slv.st {s : ST} {y : DY} {a : Nat} {b : Nat} {aim : Nat} {tg : Nat} {h : AH} (C : Slv s y a b aim tg h) : ∀ i, i < (trL s y a b aim tg).length → ivA h 63 i = kI ((trL s y a b aim tg).getD i 0 : Nat) := C.2.2.2.2.2.2
def SlC (s : ST) (y : DY) (a b : Nat) (h : AH) : Prop := ivA h 57 12 = kI (-1) ∨ ∃ aim tg, Slv s y a b aim tg h
/-- what solving changes -/
abbrev FSv (va : Nat) (h h' : AH) : Prop := Fr (fun x k => x = va ∨ (x = 57 ∧ 12 ≤ k) ∨ x = 63) I0 h h'
theorem PHd.sv {T : Nat → Nat} {s : ST} {p : Nat} {y : DY} {a b ar mo va : Nat} {h h' : AH} (P : PHd T s p y a b ar mo va h) {J : Nat → Nat → Prop} (e : Fr (fun x k => x = va ∨ (x = 57 ∧ 12 ≤ k) ∨ x = 63) J h h') : PHd T s p y a b ar mo va h' := P.fr e (fun x k z => by
  have t57 := T57 P.t (i := 57) (by omega) (by omega)
  have t63 := T57 P.t (i := 63) (by omega) (by omega)
  have tv := P.xv.2.1
  rcases z with z | z | z
  · subst z; exact ⟨by omega, P.xv.out (by omega) (by omega), fun z => absurd z (P.xv.out (by omega) (by omega))⟩
  · rw [z.1]; exact ⟨by omega, by omega, fun _ => z.2⟩
  · rw [z]; exact ⟨by omega, by omega, fun z => by omega⟩)
theorem PGr.sv {T : Nat → Nat} {s : ST} {p : Nat} {y : DY} {a b : Nat} {h h' : AH} (G : PGr T s p y a b h) {J : Nat → Nat → Prop} (e : Fr (fun x k => x = rvA h 57 11 ∨ (x = 57 ∧ 12 ≤ k) ∨ x = 63) J h h') : PGr T s p y a b h' := by
  have P := G.H
  have rv : ∀ x k, rvA h' x k = rvA h x k := fun x k => by rw [e.2.2.1]
  have ne := P.ne
  refine ⟨?_, ?_, ?_, fun c hc => ?_⟩
  · rw [rv, rv, rv]; exact P.sv e
  · obtain ⟨arr, A⟩ := G.A
    refine ⟨arr, fun m hm => ?_⟩
    rw [rv, e.2.2.2.2.2.1 _ _ (fun z => by
      have a1 := P.xa.out (i := 57) (by omega) (by omega)
      have a2 := P.xa.out (i := 63) (by omega) (by omega)
      omega)]
    exact A m hm
  · intro m l h1 h2
    rw [rv, e.2.2.2.2.2.1 _ _ (fun z => by
      have a1 := P.xm.out (i := 57) (by omega) (by omega)
      have a2 := P.xm.out (i := 63) (by omega) (by omega)
      omega)]
    exact G.M m l h1 h2
  · rw [e.2.2.2.2.2.1 _ _ (fun z => by
      have a1 := P.xv.out (i := 62) (by omega) (by omega)
      omega)]
    exact G.O c hc
theorem Pa_solve_g {T : Nat → Nat} {s : ST} {p : Nat} {y : DY} {a b aim tg : Nat} {h : AH} (G : PGr T s p y a b h) (C : SlC s y a b h) (ok : AimOk y aim tg) : GI 6 m_Pa_solve [.ref 57, .int (kI aim), .int (kI tg)] h (kI (WT s y a b aim tg (yD y) (yL y))) (fun h' => FSv (rvA h 57 11) h h' ∧ Slv s y a b aim tg h') := by
  have P := G.H
  have F := P.F
  have w := P.S.wf
  have pn := P.n
  have n2 := w.n12
  have wd := wdt_b w
  have hD := P.wy.m12 w
  have hD2 := P.wy.1
  have oa := ok.1
  have ot := ok.2.1
  obtain ⟨va, hva⟩ : ∃ va, va = rvA h 57 11 := ⟨_, rfl⟩
  have v57 := P.xv.out (i := 57) (by omega) (by omega)
  have v63 := P.xv.out (i := 63) (by omega) (by omega)
  have m57 := P.xm.out (i := 57) (by omega) (by omega)
  have m63 := P.xm.out (i := 63) (by omega) (by omega)
  have a57 := P.xa.out (i := 57) (by omega) (by omega)
  have a63 := P.xa.out (i := 63) (by omega) (by omega)
  have v62 := P.xv.out (i := 62) (by omega) (by omega)
  refine GIo (s_Pa_solve_0 ?_)
  have fresh : Safe 5 m_Pa_solve (16, [.ref 57, .int (kI aim), .int (kI tg), unV], [], h) (fun v h' => Eqv v (some (.int (kI (WT s y a b aim tg (yD y) (yL y))))) ∧ FSv (rvA h 57 11) h h' ∧ Slv s y a b aim tg h') := by
    obtain ⟨h1, h1e⟩ : ∃ h1, h1 = stI (stI h 57 12 (kI aim)) 57 13 (kI tg) := ⟨_, rfl⟩
    refine s_Pa_solve_16 ?_
    have e1 : FSv (rvA h 57 11) h (stI (stI h 57 12 (kI aim)) 57 13 (kI tg)) := ((Fr_rfl (fun x k => x = rvA h 57 11 ∨ (x = 57 ∧ 12 ≤ k) ∨ x = 63) I0 h).stI (Or.inr (Or.inl ⟨rfl, by omega⟩)) _).stI (Or.inr (Or.inl ⟨rfl, by omega⟩)) _
    have P1 := P.sv e1
    have f12 : ivA (stI (stI h 57 12 (kI aim)) 57 13 (kI tg)) 57 12 = kI aim := by rw [iv_stI, if_neg (by omega), iv_stI, if_pos ⟨rfl, rfl⟩]
    have f13 : ivA (stI (stI h 57 12 (kI aim)) 57 13 (kI tg)) 57 13 = kI tg := by rw [iv_stI, if_pos ⟨rfl, rfl⟩]
    rw [← h1e] at e1 P1 f12 f13 ⊢
    rw [P1.r1, P1.S.i3, P1.S.k, kd_57 F, kd_stI, kd_57 F, kd_57 P1.F]
    refine ⟨rfl, rfl, rfl, rfl, ?_⟩
    suffices H : ∀ k, k ≤ 2 ^ sN s → yD y ≤ k → ∀ h2, FVa (rvA h 57 11) h1 h2 → ValOk s y a b aim tg (rvA h 57 11) k h2 → Safe 5 m_Pa_solve (34, [.ref 57, unV, unV, .int (kI ((k : Int) - 1))], [], h2) (fun v h' => Eqv v (some (.int (kI (WT s y a b aim tg (yD y) (yL y))))) ∧ FSv (rvA h 57 11) h h' ∧ Slv s y a b aim tg h') by
      have := H (2 ^ sN s) (by omega) (by omega) h1 (Fr_rfl _ _ _) (fun m l hm hl => by have := (Wy_l w P.wy hl).2.1; omega)
      rw [show ((2 ^ sN s : Nat) : Int) - 1 = ((2 ^ sN s - 1 : Nat) : Int) by omega] at this
      exact this
    have sv : ∀ h2, FVa (rvA h 57 11) h1 h2 → FSv (rvA h 57 11) h1 h2 := fun h2 e => e.mono (fun x k z => Or.inl z) (fun _ _ z => z)
    have fin : ∀ k h2, k = yD y → FVa (rvA h 57 11) h1 h2 → ValOk s y a b aim tg (rvA h 57 11) k h2 → Safe 5 m_Pa_solve (34, [.ref 57, unV, unV, .int (kI ((k : Int) - 1))], [], h2) (fun v h' => Eqv v (some (.int (kI (WT s y a b aim tg (yD y) (yL y))))) ∧ FSv (rvA h 57 11) h h' ∧ Slv s y a b aim tg h') := by
      intro k h2 ek e2 V2
      subst ek
      have P2 := P1.va e2
      have F2 := P2.F
      have rk := rnk_lt P.wy.2.1
      have bd := idx_lt hD2 rk
      have lv := P2.xv.2.2.2.2.1
      have V20 : ValOk s y a b aim tg (rvA h 57 11) 0 h2 := fun m l _ hl hb => V2 m l (le_of_sub (Wy_l w P.wy hl).2.2) hl hb
      have nby : ¬ byd y aim tg (yD y) := fun z => by
        rcases z with z | z
        · rw [(ok.2.2.2 z.1).2] at z; cases z.2
        · omega
      have ev := V20 (yD y) (yL y) (Nat.zero_le _) (CW_pos.mpr (Or.inl ⟨rfl, rfl⟩)) nby
      have ei : kI (yD y : Int) * kI (wdt s : Int) + kI (rnk s (yL y) : Int) = kI ((yD y * wdt s + rnk s (yL y) : Nat) : Int) := by rw [kI_mul, kI_add]; rfl
      refine s_Pa_solve_34 ?_
      rw [kd_57 F2, P2.i5, P2.i6, P2.i7, P2.r11, if_pos (by rw [decide_eq_true_eq, kI_lt (by omega) (by omega) (by omega) (by omega)]; omega), ei, ix_kI (by omega), ev, P2.xv.2.2.2.1, kd_stI, kd_57 F2]
      refine ⟨rfl, rfl, rfl, rfl, rfl, rfl, inB_kI (by omega) (by omega), rfl, rfl, ?_⟩
      have e3 : FSv (rvA h 57 11) h2 (stI h2 57 14 (kI (WT s y a b aim tg (yD y) (yL y)))) := (Fr_rfl (fun x k => x = rvA h 57 11 ∨ (x = 57 ∧ 12 ≤ k) ∨ x = 63) I0 h2).stI (Or.inr (Or.inl ⟨rfl, by omega⟩)) _
      have e13 : FSv (rvA h 57 11) h1 (stI h2 57 14 (kI (WT s y a b aim tg (yD y) (yL y)))) := (sv h2 e2).trans e3
      have P3 := P2.sv e3
      have i3 : ∀ x k, x ≠ rvA h 57 11 → (x ≠ 57 ∨ k ≠ 14) → ivA (stI h2 57 14 (kI (WT s y a b aim tg (yD y) (yL y)))) x k = ivA h1 x k := fun x k h3 h4 => by
        rw [iv_stI, if_neg (by omega), e2.2.2.2.2.2.1 x k h3]
      have i1h : ∀ x k, x ≠ rvA h 57 11 → x ≠ 57 → x ≠ 63 → ivA h1 x k = ivA h x k := fun x k h3 h4 h5 => e1.2.2.2.2.2.1 x k (by omega)
      have V3 : ValOk s y a b aim tg (rvA h 57 11) 0 (stI h2 57 14 (kI (WT s y a b aim tg (yD y) (yL y)))) := fun m l h3 h4 h5 => by
        rw [iv_stI, if_neg (fun z => v57 z.1)]
        exact V20 m l h3 h4 h5
      refine GV.use (Pa_trace_g P3 (fun c hc => ?_) ?_ ?_ ?_ ok (fun m l h3 h4 => ?_) V3) (by omega) (fun h4 e4 => ?_)
      · rw [i3 62 c (fun z => v62 z.symm) (by omega), i1h 62 c (fun z => v62 z.symm) (by omega) (by omega)]
        exact G.O c hc
      · rw [i3 57 12 (fun z => v57 z.symm) (by omega)]; exact f12
      · rw [i3 57 13 (fun z => v57 z.symm) (by omega)]; exact f13
      · rw [iv_stI, if_pos ⟨rfl, rfl⟩]
      · rw [i3 _ _ P.ne.2.2 (Or.inl m57), i1h _ _ P.ne.2.2 m57 m63]
        exact G.M m l h3 h4
      · obtain ⟨e4, l4, t4⟩ := e4
        have F4 := e4.fix P3.F
        have rv4 : ∀ x k, rvA h4 x k = rvA h x k := fun x k => by rw [e4.2.2.1, e13.2.2.1, e1.2.2.1]
        have iv4 : ∀ x k, x ≠ 63 → (x ≠ 57 ∨ k ≠ 17) → ivA h4 x k = ivA (stI h2 57 14 (kI (WT s y a b aim tg (yD y) (yL y)))) x k := fun x k h3 h5 => e4.2.2.2.2.2.1 x k (by omega)
        have s14 : ivA h4 57 14 = kI (WT s y a b aim tg (yD y) (yL y)) := by rw [iv4 57 14 (by omega) (by omega), iv_stI, if_pos ⟨rfl, rfl⟩]
        rw [kd_57 F4, s14]
        refine ⟨rfl, rfl, e1.trans (e13.trans (e4.mono (fun x k z => by rcases z with z | z; exact Or.inr (Or.inl ⟨z.1, by omega⟩); exact Or.inr (Or.inr z)) (fun _ _ z => z))), ok, ?_, ?_, s14, fun m l h3 h5 h6 => ?_, l4, t4⟩
        · rw [iv4 57 12 (by omega) (by omega), i3 57 12 (fun z => v57 z.symm) (by omega)]; exact f12
        · rw [iv4 57 13 (by omega) (by omega), i3 57 13 (fun z => v57 z.symm) (by omega)]; exact f13
        · rw [rv4, iv4 _ _ v63 (Or.inl v57)]
          exact V3 m l h3 h5 h6
    intro k
    induction k with
    | zero =>
      intro _ h0 h2 e2 V2
      exact fin 0 h2 (by omega) e2 V2
    | succ k ih =>
      intro hk h0 h2 e2 V2
      by_cases zD : k < yD y
      · exact fin (k + 1) h2 (by omega) e2 V2
      · have P2 := P1.va e2
        have F2 := P2.F
        have iv2 : ∀ x k, x ≠ rvA h 57 11 → ivA h2 x k = ivA h1 x k := fun x k h3 => e2.2.2.2.2.2.1 x k h3
        have i1h : ∀ x k, x ≠ rvA h 57 11 → x ≠ 57 → x ≠ 63 → ivA h1 x k = ivA h x k := fun x k h3 h4 h5 => e1.2.2.2.2.2.1 x k (by omega)
        have A2 : ArrOk s y a b (rvA h 57 9) h2 := by
          obtain ⟨arr, A⟩ := G.A
          exact ⟨arr, fun m hm => by rw [iv2 _ _ P.ne.2.1, i1h _ _ P.ne.2.1 a57 a63]; exact A m hm⟩
        have ek : ((k + 1 : Nat) : Int) - 1 = (k : Int) := by omega
        have em : kI (k : Int) + kI (-1) = kI ((k : Int) - 1) := by rw [kI_add]; rfl
        have lar : k < lnA h2 (rvA h 57 9) := by have := P2.xa.2.2.2.2.1; omega
        obtain ⟨arr, Aa⟩ := A2
        have Ak := Aa k (by omega)
        refine s_Pa_solve_34 ?_
        rw [ek, em, kd_57 F2, P2.i5, P2.r9, P2.xa.2.2.2.1, if_neg (by rw [decide_eq_true_eq, kI_lt (by omega) (by omega) (by omega) (by omega)]; omega), ix_kI (by omega), Ak.1]
        refine ⟨rfl, rfl, rfl, inB_kI (by omega) lar, ?_⟩
        by_cases qz : arr k = 0
        · rw [if_pos (by rw [qz]; decide)]
          have no : ∀ l, ¬ 0 < Wy s y a b tt1 k l := Ak.2.2.zero.mp qz
          refine ih (by omega) (by omega) h2 e2 (fun m l hm hl hb => ?_)
          by_cases z : m = k
          · rw [z] at hl; exact absurd hl (no l)
          · exact V2 m l (by omega) hl hb
        · rw [if_neg (by rw [decide_eq_true_eq, z0, kI_inj (by omega) (by omega) (by omega) (by omega)]; omega)]
          have ex : ∃ l, 0 < Wy s y a b tt1 k l := by
            refine Classical.byContradiction (fun z => qz (Ak.2.2.zero.mpr (fun l hl => z ⟨l, hl⟩)))
          obtain ⟨l0, g0⟩ := ex
          have sb := (Wy_l w P.wy g0).2.2
          have j12 : ivA h2 57 12 = kI aim := by rw [iv2 57 12 (fun z => v57 z.symm)]; exact f12
          have j13 : ivA h2 57 13 = kI tg := by rw [iv2 57 13 (fun z => v57 z.symm)]; exact f13
          refine ⟨rfl, ?_⟩
          rw [Pa_isBeyond_c P2 j12 j13 ok (by omega) (by omega) sb]
          refine ⟨fun hb => ?_, fun hb => ?_⟩
          · rw [if_pos (by decide)]
            refine ih (by omega) (by omega) h2 e2 (fun m l hm hl hb2 => ?_)
            by_cases z : m = k
            · rw [z] at hb2; exact absurd hb hb2
            · exact V2 m l (by omega) hl hb2
          · rw [if_neg (by decide)]
            refine ⟨by rw [kd_57 F2]; rfl, ?_⟩
            refine GV.use (Pa_settle_g P2 (fun c hc => ?_) j12 j13 ok (by omega) sb hb ⟨arr, Aa⟩ (fun m l h3 h4 => ?_) V2) (by omega) (fun h3 e3 => ?_)
            · rw [iv2 62 c (fun z => v62 z.symm), i1h 62 c (fun z => v62 z.symm) (by omega) (by omega)]; exact G.O c hc
            · rw [iv2 _ _ P.ne.2.2, i1h _ _ P.ne.2.2 m57 m63]; exact G.M m l h3 h4
            · exact ih (by omega) (by omega) h3 (e2.trans e3.1) e3.2
  rw [kd_57 F]
  refine ⟨rfl, ?_⟩
  rcases C with C | ⟨am, tt, C⟩
  · rw [C, if_pos (by rw [Bool.not_eq_true', decide_eq_false_iff_not, kI_inj (by omega) (by omega) (by omega) (by omega)]; omega)]
    exact fresh
  · have oa2 := C.ok.1
    have ot2 := C.ok.2.1
    rw [C.i12, C.i13]
    by_cases q1 : am = aim
    · rw [if_neg (by rw [q1]; simp)]
      refine ⟨rfl, ?_⟩
      by_cases q2 : tt = tg
      · rw [if_pos (by rw [q2]; simp), C.i14]
        subst q1
        subst q2
        exact ⟨rfl, rfl, Fr_rfl _ _ _, C⟩
      · rw [if_neg (by rw [decide_eq_true_eq, kI_inj (by omega) (by omega) (by omega) (by omega)]; omega)]
        exact fresh
    · rw [if_pos (by rw [Bool.not_eq_true', decide_eq_false_iff_not, kI_inj (by omega) (by omega) (by omega) (by omega)]; omega)]
      exact fresh
