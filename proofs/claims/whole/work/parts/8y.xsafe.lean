/-! what is remembered stands where other cells change; safest of the program -/
theorem PArr.fn {T : Nat → Nat} {x kd n : Nat} {A : Nat → Prop} {h h' : AH} (P : PArr T x kd n h) (e : FN A h h') : PArr T x kd n h' := by
  have kl := e.kl x (Or.inl P.2.2.1)
  have z := e.sz
  unfold PArr at *
  rw [kl.1, kl.2]
  exact ⟨P.1, P.2.1, by omega, P.2.2.2.1, P.2.2.2.2⟩
theorem PHd.fn {T : Nat → Nat} {s : ST} {p : Nat} {y : DY} {a b ar mo va : Nat} {A : Nat → Prop} {h h' : AH} (P : PHd T s p y a b ar mo va h) (e : FN A h h') (F' : Fix h') (n0 : ∀ x, A x → T x ≠ 0) (n1 : ¬ A 57) (n2 : ¬ A 58) : PHd T s p y a b ar mo va h' := by
  have F := P.F
  have i := e.iv 57 (oldF F (by omega)) n1
  have r := e.rv 57 (oldF F (by omega)) n1
  have j := e.iv 58 (oldF F (by omega)) n2
  exact ⟨F', P.t, P.S.fn e n0, P.wy, P.ha, P.hb, by rw [r]; exact P.r1, by rw [i]; exact P.i3, by rw [i]; exact P.i4, by rw [i]; exact P.i5, by rw [i]; exact P.i6, by rw [i]; exact P.i7, by rw [r]; exact P.r9, by rw [r]; exact P.r10, by rw [r]; exact P.r11, P.xa.fn e, P.xm.fn e, P.xv.fn e, P.ne, fun c hc => by rw [j]; exact P.lp c hc⟩
def PFre (T : Nat → Nat) (x : Nat) : Prop := T x = 1 ∨ (T x ≠ 0 ∧ x ≤ 105 ∧ (x < 45 ∨ 66 < x))
theorem PFre_T {T : Nat → Nat} {x : Nat} (h : PFre T x) : T x ≠ 0 := by unfold PFre at h; omega
theorem PFre_no {T : Nat → Nat} (t : TF T) {x : Nat} (h1 : 45 ≤ x) (h2 : x ≤ 66) : ¬ PFre T x := fun h => by
  have := t.two (a := x) (by omega) (by omega)
  unfold PFre at h
  omega
def PFrg (T : Nat → Nat) (x : Nat) : Prop := T x = 1 ∨ (T x ≠ 0 ∧ x ≤ 105 ∧ (x < 57 ∨ 64 < x))
theorem PFrg_T {T : Nat → Nat} {x : Nat} (h : PFrg T x) : T x ≠ 0 := by unfold PFrg at h; omega
theorem PFre.g {T : Nat → Nat} {x : Nat} (h : PFre T x) : PFrg T x := by unfold PFre at h; unfold PFrg; omega
theorem PFrg_no {T : Nat → Nat} (t : TF T) {x : Nat} (h1 : 57 ≤ x) (h2 : x ≤ 64) : ¬ PFrg T x := fun h => by
  have := t.two (a := x) (by omega) (by omega)
  unfold PFrg at h
  omega
theorem PArr.no {T : Nat → Nat} {x kd n : Nat} {h : AH} (P : PArr T x kd n h) : ¬ PFrg T x := fun w => by
  unfold PArr at P
  unfold PFrg at w
  omega
theorem PGo.fn {T : Nat → Nat} {s : ST} {p : Nat} {y : DY} {a b : Nat} {A : Nat → Prop} {h h' : AH} (G : PGo T s p y a b h) (e : FN A h h') (F' : Fix h') (n0 : ∀ x, A x → PFrg T x) : PGo T s p y a b h' := by
  obtain ⟨G, S, Ty⟩ := G
  have P := G.H
  have F := P.F
  have no : ∀ x, 57 ≤ x → x ≤ 64 → ¬ A x := fun x h1 h2 w => PFrg_no P.t h1 h2 (n0 x w)
  have i57 := e.iv 57 (oldF F (by omega)) (no 57 (by omega) (by omega))
  have j57 := e.jv 57 (oldF F (by omega)) (no 57 (by omega) (by omega))
  have r57 := e.rv 57 (oldF F (by omega)) (no 57 (by omega) (by omega))
  have i62 := e.iv 62 (oldF F (by omega)) (no 62 (by omega) (by omega))
  have i63 := e.iv 63 (oldF F (by omega)) (no 63 (by omega) (by omega))
  have j64 := e.jv 64 (oldF F (by omega)) (no 64 (by omega) (by omega))
  have ia := e.iv _ (Or.inl P.xa.2.2.1) (fun w => P.xa.no (n0 _ w))
  have im := e.iv _ (Or.inl P.xm.2.2.1) (fun w => P.xm.no (n0 _ w))
  have iv := e.iv _ (Or.inl P.xv.2.2.1) (fun w => P.xv.no (n0 _ w))
  refine ⟨⟨?_, ?_, ?_, fun c hc => ?_⟩, ?_, ?_⟩
  · rw [r57, r57, r57]
    exact P.fn e F' (fun x w => PFrg_T (n0 x w)) (no 57 (by omega) (by omega)) (no 58 (by omega) (by omega))
  · rw [r57]
    obtain ⟨arr, A0⟩ := G.A
    exact ⟨arr, fun m hm => by rw [ia]; exact A0 m hm⟩
  · rw [r57]
    intro m l h1 h2
    rw [im]
    exact G.M m l h1 h2
  · rw [i62]; exact G.O c hc
  · rcases S with S | ⟨aim, tg, S⟩
    · exact Or.inl (by rw [i57]; exact S)
    · refine Or.inr ⟨aim, tg, S.ok, by rw [i57]; exact S.i12, by rw [i57]; exact S.i13, by rw [i57]; exact S.i14, ?_, by rw [i57]; exact S.i17, fun i hi => by rw [i63]; exact S.st i hi⟩
      rw [r57]
      intro m l h1 h2 h3
      rw [iv]
      exact S.V m l h1 h2 h3
  · unfold TyC at *
    rw [j57]
    rcases Ty with Ty | ⟨h1, h2, h3⟩
    · exact Or.inl Ty
    · exact Or.inr ⟨h1, h2, fun n hn => by rw [j64]; exact h3 n hn⟩
theorem PI.fn {T : Nat → Nat} {R : Nat → ST} {s : ST} {p : Nat} {y : DY} {v : Int} {A : Nat → Prop} {h h' : AH} (I : PI T R s p y v h) (F : Fix h) (t : TF T) (e : FN A h h') (F' : Fix h') (n0 : ∀ x, A x → PFre T x) : PI T R s p y v h' ∧ PhP h' = PhP h := by
  have no : ∀ x, 45 ≤ x → x ≤ 66 → ¬ A x := fun x h1 h2 w => PFre_no t h1 h2 (n0 x w)
  have i57 := e.iv 57 (oldF F (by omega)) (no 57 (by omega) (by omega))
  have r57 := e.rv 57 (oldF F (by omega)) (no 57 (by omega) (by omega))
  have i65 := e.iv 65 (oldF F (by omega)) (no 65 (by omega) (by omega))
  have kl : ∀ x, old h x → kdA h' x = kdA h x ∧ lnA h' x = lnA h x := fun x o => e.kl x o
  have z := e.sz
  refine ⟨⟨fun i hi => (I.pm i hi).fn F hi e (fun x w => PFre_T (n0 x w)) (no _ (by omega) (by omega)) (no _ (by omega) (by omega)) (no _ (by omega) (by omega)), I.rp, I.hp, I.X.of (fun k _ _ => r57 k) kl z, fun x hx => I.td x (by omega), ?_, ?_⟩, PhP_of I.X (fun k _ _ => r57 k) kl⟩
  · obtain ⟨pv, c1, c2, c3, c4⟩ := I.pc
    refine ⟨pv, by rw [i57]; exact c1, c2, c3, fun q => ?_⟩
    obtain ⟨a, b, g⟩ := c4 q
    exact ⟨a, b, g.fn e F' (fun x w => (n0 x w).g)⟩
  · obtain ⟨cv, c1, c2, c3, c4⟩ := I.cc
    refine ⟨cv, by rw [i65]; exact c1, c2, c3, fun q => ?_⟩
    obtain ⟨a, b, g⟩ := c4 q
    exact ⟨a, b, g.fn F e (no 65 (by omega) (by omega)) (no 66 (by omega) (by omega))⟩
/-- with another version, whatever the page holds -/
theorem PI.up {T : Nat → Nat} {R : Nat → ST} {s : ST} {p : Nat} {y : DY} {v : Int} {h : AH} (I : PI T R s p y v h) (y' : DY) {v' : Int} (hv : v < v') : PI T R s p y' v' h := by
  obtain ⟨pv, c1, c2, c3, _⟩ := I.pc
  obtain ⟨cv, d1, d2, d3, _⟩ := I.cc
  exact ⟨I.pm, I.rp, I.hp, I.X, I.td, ⟨pv, c1, c2, by omega, fun q => by omega⟩, ⟨cv, d1, d2, by omega, fun q => by omega⟩⟩
theorem PI.fr {T : Nat → Nat} {R : Nat → ST} {s : ST} {p : Nat} {y : DY} {v : Int} {I J : Nat → Nat → Prop} {h h' : AH} (P : PI T R s p y v h) (F : Fix h) (t : TF T) (e : Fr I J h h') (hi : ∀ x k, I x k → PFre T x) (hj : ∀ x k, J x k → PFre T x) : PI T R s p y v h' ∧ PhP h' = PhP h := P.fn F t (e.fn hi hj) (e.fix F) (fun _ w => w)
theorem XI.fg {T : Nat → Nat} {R : Nat → ST} {s : ST} {p : Nat} {y : DY} {v : Int} {hs : List DY} {nx : Nat} {h h' : AH} (X : XI T R s p y v hs nx h) (e : FG T h h') : XI T R s p y v hs nx h' ∧ OutG T R s p y v h h' := by
  have q := X.I.fr X.B.F X.B.t e (fun x _ w => Or.inl w) (fun x _ w => w.elim)
  have B' := X.B.scr e (fun a k w => Or.inl w)
  refine ⟨⟨B', q.1, X.v0, X.v1, by rw [e.2.2.2.1]; exact X.hz⟩, e.fn (fun x _ w => Or.inl w) (fun x _ w => w.elim), B'.F, ⟨?_, ?_⟩, q.1⟩
  · rw [q.2, e.2.2.2.2.1]; exact Nat.le_refl _
  · rw [e.2.2.2.1]; omega
theorem OutG.pre {T : Nat → Nat} {R : Nat → ST} {s : ST} {p : Nat} {y : DY} {v : Int} {hs : List DY} {nx : Nat} {h h1 h2 : AH} (X : XI T R s p y v hs nx h) (e : FG T h h1) (O : OutG T R s p y v h1 h2) : OutG T R s p y v h h2 := by
  have q := X.I.fr X.B.F X.B.t e (fun x _ w => Or.inl w) (fun x _ w => w.elim)
  obtain ⟨O1, O2, O3, O4⟩ := O
  refine ⟨(e.fn (fun x _ w => Or.inl w) (fun x _ w => w.elim)).trans O1, O2, ?_, O4⟩
  unfold Rm at *
  rw [q.2, e.2.2.2.2.1, e.2.2.2.1] at O3
  exact O3
theorem X_safest_g {T : Nat → Nat} {R : Nat → ST} {s : ST} {p : Nat} {y : DY} {v : Int} {hs : List DY} {nx : Nat} {h : AH} (X : XI T R s p y v hs nx h) {a n wh : Int} (a1 : -2147483648 ≤ a) (a2 : a ≤ 2147483647) (n1 : -2147483648 ≤ n) (n2' : n ≤ 2147483647) (w1 : -2147483648 ≤ wh) (w2 : wh ≤ 2147483647) : GI 10 m_X_safest [.ref 1, .int (kI a), .int (kI n), .int (kI wh)] h (kI (safA s y a n wh)) (OutG T R s p y v h) := by
  have B := X.B
  have n2 := B.S.wf.n12
  have gd := gd_begin B
  have oT := oddsT_le B.S.wf (yD y)
  have hD := B.wy.m12 B.S.wf
  refine GIo (s_X_safest_0 ?_)
  rw [gd.1, gd.2.2.2.1, gd.2.2.2.2.2]
  refine ⟨rfl, rfl, ?_⟩
  rw [Sh_hasHand_c B.S (by omega) a1 a2]
  unfold safA
  by_cases q1 : 0 ≤ a ∧ a < sH s
  · obtain ⟨A, rfl⟩ : ∃ A : Nat, a = A := ⟨a.toNat, by omega⟩
    rw [if_neg (by rw [dec_b0]; exact fun z => z q1), X_isPart_c (by omega) w1 w2 (by omega) (by omega)]
    by_cases q2 : (0 ≤ wh ∧ wh ≤ 1) ∨ (10 ≤ wh ∧ wh ≤ 21)
    · rw [if_pos (by rw [Bool.not_eq_true', decide_eq_false_iff_not, bI_0]; exact fun z => z q2), if_pos (show (0 ≤ (A : Int) ∧ (A : Int) < sH s) ∧ ((0 ≤ wh ∧ wh ≤ 1) ∨ (10 ≤ wh ∧ wh ≤ 21)) from ⟨q1, q2⟩)]
      by_cases q3 : n < 0
      · rw [if_pos (by rw [decide_eq_true_eq, z0, kI_lt (by omega) (by omega) (by omega) (by omega)]; exact q3), if_neg (show ¬ (0 ≤ n ∧ n ≤ 12) by omega)]
        exact ⟨rfl, OutG_rfl X⟩
      · rw [if_neg (by rw [decide_eq_true_eq, z0, kI_lt (by omega) (by omega) (by omega) (by omega)]; exact q3)]
        by_cases q4 : n ≤ 12
        · obtain ⟨N, rfl⟩ : ∃ N : Nat, n = N := ⟨n.toNat, by omega⟩
          rw [if_pos (by rw [decide_eq_true_eq, kI_le (by omega) (by omega) (by omega) (by omega)]; exact q4), if_pos (show 0 ≤ (N : Int) ∧ (N : Int) ≤ 12 by omega), gd.1, gd.2.2.2.2.1, gd.2.2.2.1, gd.2.2.2.2.2, kd_8 B.F, B.P.i0]
          refine ⟨rfl, rfl, rfl, rfl, ?_⟩
          refine GI.use (Sh_allOdds_g B.S hD) (by omega) (fun h0 e0 => ?_)
          have X0 := X.fg e0
          obtain ⟨X0, O0⟩ := X0
          have B0 := X0.B
          have gd0 := gd_begin B0
          by_cases q5 : oddsT s (yD y) = 0
          · rw [if_neg (by rw [q5]; decide), if_pos q5]
            exact ⟨rfl, O0⟩
          · rw [if_pos (by rw [Bool.not_eq_true', decide_eq_false_iff_not, z0, kI_inj (by omega) (by omega) (by omega) (by omega)]; omega), if_neg q5, gd0.1, gd0.2.1, gd0.2.2.1, gd0.2.2.2.1, gd0.2.2.2.2.1]
            refine ⟨rfl, rfl, rfl, rfl, ?_⟩
            refine X_begin B0 X0.I X0.v0 X0.v1 X0.hz (by omega) (by omega) (by omega) (fun h1 O1 g1 j1 => ?_)
            have gd1 := gd_begin (B0.pt O1.1 O1.2.1)
            rw [gd1.1, gd1.2.1, gd1.2.2.1]
            refine ⟨rfl, rfl, ?_⟩
            refine X_solve O1 X0.hz B.t g1 j1 X.v0 (aim := 3) (tg := N) ⟨by omega, by omega, by omega, by omega⟩ (by omega) (fun h2 O2 g2 S2 => ?_)
            have O2' := O2.pre X e0
            have wb := (WT_gd B.S.wf (y := y) (a := A) (b := A) (tg := N) (l := yL y) (aim := 3) (by omega) hD).b
            rw [Int.toNat_natCast, Int.toNat_natCast]
            by_cases q6 : WT s y A A 3 N (yD y) (yL y) = 1048576
            · rw [q6, if_neg (by decide), if_pos rfl]
              exact ⟨rfl, O2'⟩
            · have wa := WT_all B.S.wf B.wy q6
              rw [if_pos (by rw [decide_eq_true_eq, kI_lt (by omega) (by omega) (by omega) (by omega)]; omega), if_neg q6]
              by_cases q7 : wh < 2
              · rw [if_pos (by rw [decide_eq_true_eq, kI_lt (by omega) (by omega) (by omega) (by omega)]; omega), if_pos q7, kI_sub]
                have ew : (oddsT s (yD y) : Int) - WT s y A A 3 N (yD y) (yL y) = ((oddsT s (yD y) - (WT s y A A 3 N (yD y) (yL y)).toNat : Nat) : Int) := by omega
                rw [ew, kI_long (by omega) (by omega), kI_long (by omega) (by omega), X_lowest_c (by omega) (by omega) (by omega) (by omega) (by omega) (by omega)]
                refine ⟨?_, O2'⟩
                have bd : (if wh = 0 then oddsT s (yD y) - (WT s y A A 3 N (yD y) (yL y)).toNat else oddsT s (yD y)) / Nat.gcd (oddsT s (yD y) - (WT s y A A 3 N (yD y) (yL y)).toNat) (oddsT s (yD y)) ≤ 12000 := by
                  refine Nat.le_trans (Nat.div_le_self _ _) ?_
                  split <;> omega
                have g : ∀ Q : Nat, Q ≤ 12000 → (kJ (Q : Int)).toInt32 = kI (Q : Int) := fun Q hQ => kJ_int (by omega) (by omega)
                rw [g _ bd]
                rfl
              · rw [if_neg (by rw [decide_eq_true_eq, kI_lt (by omega) (by omega) (by omega) (by omega)]; omega), if_neg q7]
                have gd2 := gd_begin (B0.pt O2.1 O2.2.1)
                rw [gd2.1, gd2.2.1, gd2.2.2.1, kI_sub]
                refine ⟨rfl, rfl, ?_⟩
                rw [Pa_step_c O2.2.1 S2 (by omega) (by omega) (by omega)]
                have et : trL s y A A 3 N = paF s y A A 3 N := by unfold trL; rw [if_neg (by omega)]
                have len : (paF s y A A 3 N).length = N := by
                  have := pt_len3 B.S.wf (y := y) (a := A) (b := A) (n := N) 12 (yD y) (yL y) hD (by omega) (by omega) (by omega) q6
                  rw [show N - (pop (yD y) - pop (yD y)) = N by omega] at this
                  exact this
                rw [et, len]
                by_cases q8 : wh - 10 < N
                · rw [if_pos (show 0 ≤ wh - 10 ∧ wh - 10 < (N : Int) by omega), if_pos q8]
                  exact ⟨rfl, O2'⟩
                · rw [if_neg (show ¬ (0 ≤ wh - 10 ∧ wh - 10 < (N : Int)) by omega), if_neg q8]
                  exact ⟨rfl, O2'⟩
        · rw [if_neg (by rw [decide_eq_true_eq, kI_le (by omega) (by omega) (by omega) (by omega)]; exact q4), if_neg (show ¬ (0 ≤ n ∧ n ≤ 12) by omega)]
          exact ⟨rfl, OutG_rfl X⟩
    · rw [if_neg (by rw [Bool.not_eq_true', decide_eq_false_iff_not, bI_0]; exact fun z => z q2), if_neg (fun z => q2 z.2)]
      exact ⟨rfl, OutG_rfl X⟩
  · rw [if_pos (by rw [dec_b0]; exact q1), if_neg (fun z => q1 z.1)]
    exact ⟨rfl, OutG_rfl X⟩
