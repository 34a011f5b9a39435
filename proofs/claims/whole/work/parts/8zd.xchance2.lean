/-! chance and latest of the program -/
theorem latF_u (f : Nat → Nat) (D : Nat) : ∀ k, (latF f D k).1 = -1 ∧ (latF f D k).2 = 0 ∨ ∃ c : Nat, c < k ∧ D.testBit c = false ∧ (latF f D k).1 = c ∧ (latF f D k).2 = f c
  | 0 => Or.inl ⟨rfl, rfl⟩
  | k + 1 => by
    rw [latF_s]
    have ih := latF_u f D k
    have up : (latF f D k).1 = -1 ∧ (latF f D k).2 = 0 ∨ ∃ c : Nat, c < k + 1 ∧ D.testBit c = false ∧ (latF f D k).1 = c ∧ (latF f D k).2 = f c := by
      rcases ih with ih | ⟨c, h1, h2, h3⟩
      · exact Or.inl ih
      · exact Or.inr ⟨c, by omega, h2, h3⟩
    by_cases q : D.testBit k = true
    · rw [if_pos q]; exact up
    · rw [if_neg q]
      by_cases q2 : (latF f D k).1 = -1 ∨ f k < (latF f D k).2
      · rw [if_pos q2]
        exact Or.inr ⟨k, by omega, by simpa using q, rfl, rfl⟩
      · rw [if_neg q2]; exact up
theorem X_chance_g {T : Nat → Nat} {R : Nat → ST} {s : ST} {p : Nat} {y : DY} {v : Int} {hs : List DY} {nx : Nat} {h : AH} (X : XI T R s p y v hs nx h) {a c n wh : Int} (a1 : -2147483648 ≤ a) (a2 : a ≤ 2147483647) (c1 : -2147483648 ≤ c) (c2 : c ≤ 2147483647) (n1 : -2147483648 ≤ n) (n2' : n ≤ 2147483647) (w1 : -2147483648 ≤ wh) (w2 : wh ≤ 2147483647) : GJ 12 m_X_chance [.ref 1, .int (kI a), .int (kI c), .int (kI n), .int (kI wh)] h (kJ (chaA s y a c n wh)) (OutCh T R s p y v h) := by
  have B := X.B
  have F := B.F
  have n2 := B.S.wf.n12
  have gd := gd_begin B
  have hD := B.wy.m12 B.S.wf
  refine GJo (s_X_chance_0 ?_)
  rw [gd.1, gd.2.2.2.1, gd.2.2.2.2.2]
  refine ⟨rfl, rfl, ?_⟩
  rw [Sh_hasHand_c B.S (by omega) a1 a2]
  unfold chaA
  by_cases q1 : 0 ≤ a ∧ a < sH s
  · obtain ⟨A, rfl⟩ : ∃ A : Nat, a = A := ⟨a.toNat, by omega⟩
    rw [if_neg (by rw [dec_b0]; exact fun z => z q1), gd.1, gd.2.2.2.1, gd.2.2.2.2.2]
    refine ⟨rfl, rfl, ?_⟩
    rw [Sh_hasCell_c B.S (by omega) c1 c2]
    by_cases q2 : 0 ≤ c ∧ c < sN s
    · obtain ⟨e, rfl⟩ : ∃ e : Nat, c = e := ⟨c.toNat, by omega⟩
      rw [if_neg (by rw [dec_b0]; exact fun z => z q2)]
      by_cases q3 : wh < 0
      · rw [if_pos (by rw [decide_eq_true_eq, z0, kI_lt (by omega) (by omega) (by omega) (by omega)]; exact q3), if_neg (fun z => by omega)]
        exact ⟨rfl, OutCh_rfl X⟩
      rw [if_neg (by rw [decide_eq_true_eq, z0, kI_lt (by omega) (by omega) (by omega) (by omega)]; exact q3)]
      by_cases q4 : wh ≤ 1
      · rw [if_pos (by rw [decide_eq_true_eq, kI_le (by omega) (by omega) (by omega) (by omega)]; exact q4), if_pos (show (0 ≤ (A : Int) ∧ (A : Int) < sH s) ∧ (0 ≤ (e : Int) ∧ (e : Int) < sN s) ∧ (0 ≤ wh ∧ wh ≤ 1) from ⟨q1, q2, by omega, q4⟩)]
        by_cases q5 : n < 0
        · rw [if_pos (by rw [decide_eq_true_eq, z0, kI_lt (by omega) (by omega) (by omega) (by omega)]; exact q5), if_neg (show ¬ (0 ≤ n ∧ n ≤ 4) by omega)]
          exact ⟨rfl, OutCh_rfl X⟩
        rw [if_neg (by rw [decide_eq_true_eq, z0, kI_lt (by omega) (by omega) (by omega) (by omega)]; exact q5)]
        by_cases q6 : n ≤ 4
        · obtain ⟨N, rfl⟩ : ∃ N : Nat, n = N := ⟨n.toNat, by omega⟩
          have p4 := p27 (show N ≤ 4 by omega)
          rw [if_pos (by rw [decide_eq_true_eq, kI_le (by omega) (by omega) (by omega) (by omega)]; exact q6), if_pos (show 0 ≤ (N : Int) ∧ (N : Int) ≤ 4 by omega), gd.1, gd.2.2.2.2.1, kd_8 F, Int.toNat_natCast, Int.toNat_natCast, Int.toNat_natCast]
          refine ⟨rfl, rfl, ?_⟩
          rw [Pg_isDrawn_c F PG8 B.P hD (by omega) (show e < 32 by omega)]
          by_cases q7 : (yD y).testBit e = true
          · rw [if_neg (by rw [dec_b0]; exact fun z => z q7), cnF_in _ q7, Nat.gcd_self, ite_self, Nat.div_self (by omega)]
            exact ⟨rfl, OutCh_rfl X⟩
          · rw [if_pos (by rw [dec_b0]; exact q7), gd.1, gd.2.2.2.1, gd.2.2.2.2.1, rv_1_9 F, kd_65 F]
            refine ⟨rfl, rfl, rfl, rfl, ?_⟩
            refine X_cbegin X (a := A) (n := N) (by omega) (by omega) (by omega) (fun h1 O1 g1 => ?_)
            have B1 := B.ch O1.1 O1.2.1
            have F1 := B1.F
            have lt := cnF_le (mvF s A (yB y A)) N e (yD y) (yL y)
            rw [kd_1 F1, rv_1_9 F1, kd_65 F1, rv_65_5 F1, kd_66 F1, ln_66 F1, ix_kI (by omega), g1.2.2.2.2.1, g1.2.2.2.2.2 e (by omega) (by simpa using q7)]
            refine ⟨rfl, rfl, rfl, inB_kI (by omega) (by omega), rfl, rfl, ?_⟩
            rw [X_lowest_c (by omega) (by omega) (by omega) (by omega) (by omega) (by omega)]
            exact ⟨rfl, O1⟩
        · rw [if_neg (by rw [decide_eq_true_eq, kI_le (by omega) (by omega) (by omega) (by omega)]; exact q6), if_neg (show ¬ (0 ≤ n ∧ n ≤ 4) by omega)]
          exact ⟨rfl, OutCh_rfl X⟩
      · rw [if_neg (by rw [decide_eq_true_eq, kI_le (by omega) (by omega) (by omega) (by omega)]; exact q4), if_neg (fun z => by omega)]
        exact ⟨rfl, OutCh_rfl X⟩
    · rw [if_pos (by rw [dec_b0]; exact q2), if_neg (fun z => q2 z.2.1)]
      exact ⟨rfl, OutCh_rfl X⟩
  · rw [if_pos (by rw [dec_b0]; exact q1), if_neg (fun z => q1 z.1)]
    exact ⟨rfl, OutCh_rfl X⟩
theorem X_latest_g {T : Nat → Nat} {R : Nat → ST} {s : ST} {p : Nat} {y : DY} {v : Int} {hs : List DY} {nx : Nat} {h : AH} (X : XI T R s p y v hs nx h) {a n : Int} (a1 : -2147483648 ≤ a) (a2 : a ≤ 2147483647) (n1 : -2147483648 ≤ n) (n2' : n ≤ 2147483647) : GI 12 m_X_latest [.ref 1, .int (kI a), .int (kI n)] h (kI (latA s y a n)) (OutCh T R s p y v h) := by
  have B := X.B
  have F := B.F
  have n2 := B.S.wf.n12
  have gd := gd_begin B
  have hD := B.wy.m12 B.S.wf
  refine GIo (s_X_latest_0 ?_)
  rw [gd.1, gd.2.2.2.1, gd.2.2.2.2.2]
  refine ⟨rfl, rfl, ?_⟩
  rw [Sh_hasHand_c B.S (by omega) a1 a2]
  unfold latA
  by_cases q1 : 0 ≤ a ∧ a < sH s
  · obtain ⟨A, rfl⟩ : ∃ A : Nat, a = A := ⟨a.toNat, by omega⟩
    rw [if_pos (by rw [Bool.not_eq_true', decide_eq_false_iff_not, bI_0]; exact fun z => z q1), if_pos q1]
    by_cases q5 : n < 0
    · rw [if_pos (by rw [decide_eq_true_eq, z0, kI_lt (by omega) (by omega) (by omega) (by omega)]; exact q5), if_neg (show ¬ (0 ≤ n ∧ n ≤ 4) by omega)]
      exact ⟨rfl, OutCh_rfl X⟩
    rw [if_neg (by rw [decide_eq_true_eq, z0, kI_lt (by omega) (by omega) (by omega) (by omega)]; exact q5)]
    by_cases q6 : n ≤ 4
    · obtain ⟨N, rfl⟩ : ∃ N : Nat, n = N := ⟨n.toNat, by omega⟩
      have p4 := p27 (show N ≤ 4 by omega)
      rw [if_pos (by rw [decide_eq_true_eq, kI_le (by omega) (by omega) (by omega) (by omega)]; exact q6), if_pos (show 0 ≤ (N : Int) ∧ (N : Int) ≤ 4 by omega), gd.1, gd.2.2.2.1, gd.2.2.2.2.1, rv_1_9 F, kd_65 F, Int.toNat_natCast, Int.toNat_natCast]
      refine ⟨rfl, rfl, rfl, rfl, ?_⟩
      refine X_cbegin X (a := A) (n := N) (by omega) (by omega) (by omega) (fun h1 O1 g1 => ?_)
      have B1 := B.ch O1.1 O1.2.1
      have F1 := B1.F
      have gd1 := gd_begin B1
      obtain ⟨f, hf⟩ : ∃ f : Nat → Nat, f = fun c => cnF (mvF s A (yB y A)) N c (yD y) (yL y) := ⟨_, rfl⟩
      have J1 : ∀ c, c < sN s → (yD y).testBit c = false → jvA h1 66 c = kJ (f c : Nat) := by rw [hf]; exact g1.2.2.2.2.2
      have fl : ∀ c, f c ≤ 27720 ^ N := by rw [hf]; exact fun c => cnF_le _ N c _ _
      rw [← hf]
      suffices H : ∀ k, k ≤ sN s → Safe 11 m_X_latest (48, [.ref 1, unV, unV, .int (kI (latF f (yD y) k).1), .int (kI k)], [], h1) (fun x h' => Eqv x (some (.int (kI (latF f (yD y) (sN s)).1))) ∧ OutCh T R s p y v h h') by
        exact H 0 (by omega)
      refine down_ind (sN s) ?_ ?_
      · refine s_X_latest_48 ?_
        rw [gd1.1, gd1.2.2.2.1, gd1.2.2.2.2.2, B1.S.i2, if_pos (by rw [decide_eq_true_eq, kI_le (by omega) (by omega) (by omega) (by omega)]; omega)]
        exact ⟨rfl, rfl, rfl, O1⟩
      · intro k hk ih
        refine s_X_latest_48 ?_
        rw [gd1.1, gd1.2.2.2.1, gd1.2.2.2.2.2, B1.S.i2, if_neg (by rw [decide_eq_true_eq, kI_le (by omega) (by omega) (by omega) (by omega)]; omega), gd1.2.2.2.2.1, kd_8 F1]
        refine ⟨rfl, rfl, rfl, rfl, ?_⟩
        rw [Pg_isDrawn_c F1 PG8 B1.P hD (by omega) (show k < 32 by omega)]
        rw [latF_s] at ih
        have lu := latF_u f (yD y) k
        have take : (yD y).testBit k = false → ((latF f (yD y) k).1 = -1 ∨ f k < (latF f (yD y) k).2) → Safe 11 m_X_latest (100, [.ref 1, unV, unV, unV, .int (kI k)], [], h1) (fun x h' => Eqv x (some (.int (kI (latF f (yD y) (sN s)).1))) ∧ OutCh T R s p y v h h') := fun z1 z2 => by
          refine s_X_latest_100 ?_
          rw [if_neg (by rw [z1]; decide), if_pos z2] at ih
          rw [kI_add]
          exact ih
        by_cases q7 : (yD y).testBit k = true
        · rw [if_pos (by rw [Bool.not_eq_true', decide_eq_false_iff_not, bI_0]; exact fun z => z q7), kI_add]
          rw [if_pos q7] at ih
          exact ih
        · have q7' : (yD y).testBit k = false := by simpa using q7
          rw [if_neg (by rw [Bool.not_eq_true', decide_eq_false_iff_not, bI_0]; exact fun z => z q7)]
          rcases lu with lu | ⟨c, l1, l2, l3, l4⟩
          · rw [if_pos (by rw [lu.1, decide_eq_true_eq])]
            exact take q7' (Or.inl lu.1)
          · have fc := fl c
            have fk := fl k
            rw [l3] at ih ⊢
            rw [if_neg (by rw [decide_eq_true_eq, kI_inj (by omega) (by omega) (by omega) (by omega)]; omega), kd_1 F1, rv_1_9 F1, kd_65 F1, rv_65_5 F1, kd_66 F1, ln_66 F1, ix_kI (by omega), ix_kI (by omega), J1 k hk q7', J1 c (by omega) l2]
            refine ⟨rfl, rfl, rfl, inB_kI (by omega) (by omega), rfl, rfl, rfl, inB_kI (by omega) (by omega), ?_⟩
            by_cases q8 : f k < f c
            · rw [if_neg (by rw [decide_eq_true_eq, z0, cmp_ge0, kJ_le (by omega) (by omega) (by omega) (by omega)]; omega)]
              exact take q7' (Or.inr (by rw [l4]; exact q8))
            · rw [if_pos (by rw [decide_eq_true_eq, z0, cmp_ge0, kJ_le (by omega) (by omega) (by omega) (by omega)]; omega), kI_add]
              rw [if_neg q7, if_neg (by rw [l4]; omega), l3] at ih
              exact ih
    · rw [if_neg (by rw [decide_eq_true_eq, kI_le (by omega) (by omega) (by omega) (by omega)]; exact q6), if_neg (show ¬ (0 ≤ n ∧ n ≤ 4) by omega)]
      exact ⟨rfl, OutCh_rfl X⟩
  · rw [if_neg (by rw [Bool.not_eq_true', decide_eq_false_iff_not, bI_0]; exact fun z => z q1), if_neg q1]
    exact ⟨rfl, OutCh_rfl X⟩
