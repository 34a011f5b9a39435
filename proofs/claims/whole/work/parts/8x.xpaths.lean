/-! the public calls over the paths -/
theorem X_longWay_g {T : Nat → Nat} {R : Nat → ST} {s : ST} {p : Nat} {y : DY} {v : Int} {hs : List DY} {nx : Nat} {h : AH} (X : XI T R s p y v hs nx h) {a c i : Int} (a1 : -2147483648 ≤ a) (a2 : a ≤ 2147483647) (c1 : -2147483648 ≤ c) (c2 : c ≤ 2147483647) (i1 : -2147483648 ≤ i) (i2 : i ≤ 2147483647) : GI 10 m_X_longWay [.ref 1, .int (kI a), .int (kI c), .int (kI i)] h (kI (lowA s y 0 a c i)) (OutG T R s p y v h) := by
  have B := X.B
  have nb := noG_b s y a c
  have n2 := B.S.wf.n12
  have gd := gd_begin B
  refine GIo (s_X_longWay_0 ?_)
  rw [gd.1]
  refine ⟨rfl, ?_⟩
  rw [X_refusedCell_c B (by omega) a1 a2 c1 c2]
  unfold lowA
  by_cases q : noG s y a c = 0
  · obtain ⟨q1, q2, q3⟩ := noG_0 q
    obtain ⟨A, rfl⟩ : ∃ A : Nat, a = A := ⟨a.toNat, by omega⟩
    obtain ⟨e, rfl⟩ : ∃ e : Nat, c = e := ⟨c.toNat, by omega⟩
    rw [q, if_pos (by decide), if_pos rfl]
    by_cases qi : i < 0
    · rw [if_neg (by rw [decide_eq_true_eq, z0, kI_le (by omega) (by omega) (by omega) (by omega)]; omega), if_pos qi]
      exact ⟨rfl, OutG_rfl X⟩
    · rw [if_pos (by rw [decide_eq_true_eq, z0, kI_le (by omega) (by omega) (by omega) (by omega)]; omega), if_neg qi, gd.1, gd.2.1, gd.2.2.1, gd.2.2.2.1, gd.2.2.2.2.1]
      refine ⟨rfl, rfl, rfl, rfl, ?_⟩
      refine X_begin B X.I X.v0 X.v1 X.hz (by omega) (by omega) (by omega) (fun h1 O1 g1 j1 => ?_)
      have gd1 := gd_begin (B.pt O1.1 O1.2.1)
      rw [gd1.1, gd1.2.1, gd1.2.2.1]
      refine ⟨rfl, rfl, ?_⟩
      refine X_solve O1 X.hz B.t g1 j1 X.v0 (aim := 0) (tg := e) ⟨by omega, by omega, by omega, fun _ => ⟨by omega, q3⟩⟩ (by omega) (fun h2 O2 g2 S2 => ?_)
      have gd2 := gd_begin (B.pt O2.1 O2.2.1)
      rw [gd2.1, gd2.2.1, gd2.2.2.1]
      refine ⟨rfl, rfl, ?_⟩
      rw [Pa_step_c O2.2.1 S2 (by omega) i1 i2, step_at (by omega) (by omega), Int.toNat_natCast, Int.toNat_natCast]
      exact ⟨rfl, O2⟩
  · rw [if_neg (by rw [decide_eq_true_eq, z0, kI_inj (by omega) (by omega) (by omega) (by omega)]; exact q), if_neg q]
    exact ⟨rfl, OutG_rfl X⟩
theorem X_way_g {T : Nat → Nat} {R : Nat → ST} {s : ST} {p : Nat} {y : DY} {v : Int} {hs : List DY} {nx : Nat} {h : AH} (X : XI T R s p y v hs nx h) {a c i : Int} (a1 : -2147483648 ≤ a) (a2 : a ≤ 2147483647) (c1 : -2147483648 ≤ c) (c2 : c ≤ 2147483647) (i1 : -2147483648 ≤ i) (i2 : i ≤ 2147483647) : GI 10 m_X_way [.ref 1, .int (kI a), .int (kI c), .int (kI i)] h (kI (lowA s y 2 a c i)) (OutG T R s p y v h) := by
  have B := X.B
  have nb := noG_b s y a c
  have n2 := B.S.wf.n12
  have gd := gd_begin B
  refine GIo (s_X_way_0 ?_)
  rw [gd.1]
  refine ⟨rfl, ?_⟩
  rw [X_refusedCell_c B (by omega) a1 a2 c1 c2]
  unfold lowA
  by_cases q : noG s y a c = 0
  · obtain ⟨q1, q2, q3⟩ := noG_0 q
    obtain ⟨A, rfl⟩ : ∃ A : Nat, a = A := ⟨a.toNat, by omega⟩
    obtain ⟨e, rfl⟩ : ∃ e : Nat, c = e := ⟨c.toNat, by omega⟩
    rw [q, if_pos (by decide), if_pos rfl]
    by_cases qi : i < 0
    · rw [if_neg (by rw [decide_eq_true_eq, z0, kI_le (by omega) (by omega) (by omega) (by omega)]; omega), if_pos qi]
      exact ⟨rfl, OutG_rfl X⟩
    · rw [if_pos (by rw [decide_eq_true_eq, z0, kI_le (by omega) (by omega) (by omega) (by omega)]; omega), if_neg qi, gd.1, gd.2.1, gd.2.2.1, gd.2.2.2.1, gd.2.2.2.2.1]
      refine ⟨rfl, rfl, rfl, rfl, ?_⟩
      refine X_begin B X.I X.v0 X.v1 X.hz (by omega) (by omega) (by omega) (fun h1 O1 g1 j1 => ?_)
      have gd1 := gd_begin (B.pt O1.1 O1.2.1)
      rw [gd1.1, gd1.2.1, gd1.2.2.1]
      refine ⟨rfl, rfl, ?_⟩
      refine X_solve O1 X.hz B.t g1 j1 X.v0 (aim := 2) (tg := e) ⟨by omega, by omega, by omega, fun _ => ⟨by omega, q3⟩⟩ (by omega) (fun h2 O2 g2 S2 => ?_)
      have gd2 := gd_begin (B.pt O2.1 O2.2.1)
      rw [gd2.1, gd2.2.1, gd2.2.2.1]
      refine ⟨rfl, rfl, ?_⟩
      rw [Pa_step_c O2.2.1 S2 (by omega) i1 i2, step_at (by omega) (by omega), Int.toNat_natCast, Int.toNat_natCast]
      exact ⟨rfl, O2⟩
  · rw [if_neg (by rw [decide_eq_true_eq, z0, kI_inj (by omega) (by omega) (by omega) (by omega)]; exact q), if_neg q]
    exact ⟨rfl, OutG_rfl X⟩
theorem X_stuck_g {T : Nat → Nat} {R : Nat → ST} {s : ST} {p : Nat} {y : DY} {v : Int} {hs : List DY} {nx : Nat} {h : AH} (X : XI T R s p y v hs nx h) {a : Int} (a1 : -2147483648 ≤ a) (a2 : a ≤ 2147483647) : GI 10 m_X_stuck [.ref 1, .int (kI a)] h (kI (stkA s y a)) (OutG T R s p y v h) := by
  have B := X.B
  have n2 := B.S.wf.n12
  have gd := gd_begin B
  refine GIo (s_X_stuck_0 ?_)
  rw [gd.1, gd.2.2.2.1, gd.2.2.2.2.2]
  refine ⟨rfl, rfl, ?_⟩
  rw [Sh_hasHand_c B.S (by omega) a1 a2]
  unfold stkA scA
  by_cases q1 : 0 ≤ a ∧ a < sH s
  · obtain ⟨A, rfl⟩ : ∃ A : Nat, a = A := ⟨a.toNat, by omega⟩
    rw [if_pos (by rw [Bool.not_eq_true', decide_eq_false_iff_not, bI_0]; exact fun z => z q1), if_pos q1]
    rw [gd.1, gd.2.1, gd.2.2.1, gd.2.2.2.1, gd.2.2.2.2.1]
    refine ⟨rfl, rfl, rfl, rfl, ?_⟩
    refine X_begin B X.I X.v0 X.v1 X.hz (by omega) (by omega) (by omega) (fun h1 O1 g1 j1 => ?_)
    have gd1 := gd_begin (B.pt O1.1 O1.2.1)
    rw [gd1.1, gd1.2.1, gd1.2.2.1]
    refine ⟨rfl, rfl, ?_⟩
    refine X_solve O1 X.hz B.t g1 j1 X.v0 (aim := 1) (tg := 0) ⟨by omega, by omega, by omega, by omega⟩ (by omega) (fun h2 O2 g2 S2 => ?_)
    rw [rr_012 (by omega), Int.toNat_natCast, if_neg (stuck_ne B.S.wf B.wy)]
    exact ⟨rfl, O2⟩
  · rw [if_neg (by rw [Bool.not_eq_true', decide_eq_false_iff_not, bI_0]; exact fun z => z q1), if_neg q1]
    exact ⟨rfl, OutG_rfl X⟩
theorem X_stuckWay_g {T : Nat → Nat} {R : Nat → ST} {s : ST} {p : Nat} {y : DY} {v : Int} {hs : List DY} {nx : Nat} {h : AH} (X : XI T R s p y v hs nx h) {a : Int} (a1 : -2147483648 ≤ a) (a2 : a ≤ 2147483647) {i : Int} (i1 : -2147483648 ≤ i) (i2 : i ≤ 2147483647) : GI 10 m_X_stuckWay [.ref 1, .int (kI a), .int (kI i)] h (kI (stwA s y a i)) (OutG T R s p y v h) := by
  have B := X.B
  have n2 := B.S.wf.n12
  have gd := gd_begin B
  refine GIo (s_X_stuckWay_0 ?_)
  rw [gd.1, gd.2.2.2.1, gd.2.2.2.2.2]
  refine ⟨rfl, rfl, ?_⟩
  rw [Sh_hasHand_c B.S (by omega) a1 a2]
  unfold stwA
  by_cases q1 : 0 ≤ a ∧ a < sH s
  · obtain ⟨A, rfl⟩ : ∃ A : Nat, a = A := ⟨a.toNat, by omega⟩
    rw [if_pos (by rw [Bool.not_eq_true', decide_eq_false_iff_not, bI_0]; exact fun z => z q1), if_pos q1]
    by_cases qi : i < 0
    · rw [if_neg (by rw [decide_eq_true_eq, z0, kI_le (by omega) (by omega) (by omega) (by omega)]; omega), if_pos qi]
      exact ⟨rfl, OutG_rfl X⟩
    rw [if_pos (by rw [decide_eq_true_eq, z0, kI_le (by omega) (by omega) (by omega) (by omega)]; omega), if_neg qi]
    rw [gd.1, gd.2.1, gd.2.2.1, gd.2.2.2.1, gd.2.2.2.2.1]
    refine ⟨rfl, rfl, rfl, rfl, ?_⟩
    refine X_begin B X.I X.v0 X.v1 X.hz (by omega) (by omega) (by omega) (fun h1 O1 g1 j1 => ?_)
    have gd1 := gd_begin (B.pt O1.1 O1.2.1)
    rw [gd1.1, gd1.2.1, gd1.2.2.1]
    refine ⟨rfl, rfl, ?_⟩
    refine X_solve O1 X.hz B.t g1 j1 X.v0 (aim := 1) (tg := 0) ⟨by omega, by omega, by omega, by omega⟩ (by omega) (fun h2 O2 g2 S2 => ?_)
    have gd2 := gd_begin (B.pt O2.1 O2.2.1)
    rw [gd2.1, gd2.2.1, gd2.2.2.1]
    refine ⟨rfl, rfl, ?_⟩
    rw [Pa_step_c O2.2.1 S2 (by omega) i1 i2, step_at (by omega) (by omega), Int.toNat_natCast]
    exact ⟨rfl, O2⟩
  · rw [if_neg (by rw [Bool.not_eq_true', decide_eq_false_iff_not, bI_0]; exact fun z => z q1), if_neg q1]
    exact ⟨rfl, OutG_rfl X⟩
theorem X_reach_g {T : Nat → Nat} {R : Nat → ST} {s : ST} {p : Nat} {y : DY} {v : Int} {hs : List DY} {nx : Nat} {h : AH} (X : XI T R s p y v hs nx h) {a : Int} (a1 : -2147483648 ≤ a) (a2 : a ≤ 2147483647) : GI 10 m_X_reach [.ref 1, .int (kI a)] h (kI (rchA s y a)) (OutG T R s p y v h) := by
  have B := X.B
  have n2 := B.S.wf.n12
  have gd := gd_begin B
  refine GIo (s_X_reach_0 ?_)
  rw [gd.1, gd.2.2.2.1, gd.2.2.2.2.2]
  refine ⟨rfl, rfl, ?_⟩
  rw [Sh_hasHand_c B.S (by omega) a1 a2]
  unfold rchA
  by_cases q1 : 0 ≤ a ∧ a < sH s
  · obtain ⟨A, rfl⟩ : ∃ A : Nat, a = A := ⟨a.toNat, by omega⟩
    rw [if_pos (by rw [Bool.not_eq_true', decide_eq_false_iff_not, bI_0]; exact fun z => z q1), if_pos q1]
    rw [gd.1, gd.2.1, gd.2.2.1, gd.2.2.2.1, gd.2.2.2.2.1]
    refine ⟨rfl, rfl, rfl, rfl, ?_⟩
    refine X_begin B X.I X.v0 X.v1 X.hz (by omega) (by omega) (by omega) (fun h1 O1 g1 j1 => ?_)
    have gd1 := gd_begin (B.pt O1.1 O1.2.1)
    rw [gd1.1, gd1.2.1, gd1.2.2.1]
    refine ⟨rfl, rfl, ?_⟩
    rw [Pa_reached_c g1.1 (by omega), Int.toNat_natCast]
    exact ⟨rfl, O1⟩
  · rw [if_neg (by rw [Bool.not_eq_true', decide_eq_false_iff_not, bI_0]; exact fun z => z q1), if_neg q1]
    exact ⟨rfl, OutG_rfl X⟩
theorem X_ends_g {T : Nat → Nat} {R : Nat → ST} {s : ST} {p : Nat} {y : DY} {v : Int} {hs : List DY} {nx : Nat} {h : AH} (X : XI T R s p y v hs nx h) {a : Int} (a1 : -2147483648 ≤ a) (a2 : a ≤ 2147483647) : GJ 10 m_X_ends [.ref 1, .int (kI a)] h (kJ (endA s y a)) (OutG T R s p y v h) := by
  have B := X.B
  have n2 := B.S.wf.n12
  have gd := gd_begin B
  refine GJo (s_X_ends_0 ?_)
  rw [gd.1, gd.2.2.2.1, gd.2.2.2.2.2]
  refine ⟨rfl, rfl, ?_⟩
  rw [Sh_hasHand_c B.S (by omega) a1 a2]
  unfold endA
  by_cases q1 : 0 ≤ a ∧ a < sH s
  · obtain ⟨A, rfl⟩ : ∃ A : Nat, a = A := ⟨a.toNat, by omega⟩
    rw [if_pos (by rw [Bool.not_eq_true', decide_eq_false_iff_not, bI_0]; exact fun z => z q1), if_pos q1]
    rw [gd.1, gd.2.1, gd.2.2.1, gd.2.2.2.1, gd.2.2.2.2.1]
    refine ⟨rfl, rfl, rfl, rfl, ?_⟩
    refine X_begin B X.I X.v0 X.v1 X.hz (by omega) (by omega) (by omega) (fun h1 O1 g1 j1 => ?_)
    have gd1 := gd_begin (B.pt O1.1 O1.2.1)
    rw [gd1.1, gd1.2.1, gd1.2.2.1]
    refine ⟨rfl, rfl, ?_⟩
    refine X_tally O1 X.hz B.t g1 j1 X.v0 (by omega) (fun h2 O2 j19 j64 => ?_)
    have gd2 := gd_begin (B.pt O2.1 O2.2.1)
    rw [gd2.1, gd2.2.1, gd2.2.2.1, j19, Int.toNat_natCast]
    exact ⟨rfl, rfl, rfl, O2⟩
  · rw [if_neg (by rw [Bool.not_eq_true', decide_eq_false_iff_not, bI_0]; exact fun z => z q1), if_neg q1]
    exact ⟨rfl, OutG_rfl X⟩
theorem X_rows_g {T : Nat → Nat} {R : Nat → ST} {s : ST} {p : Nat} {y : DY} {v : Int} {hs : List DY} {nx : Nat} {h : AH} (X : XI T R s p y v hs nx h) {a : Int} (a1 : -2147483648 ≤ a) (a2 : a ≤ 2147483647) {n : Int} (n1 : -2147483648 ≤ n) (n2' : n ≤ 2147483647) : GJ 10 m_X_rows [.ref 1, .int (kI a), .int (kI n)] h (kJ (rowA s y a n)) (OutG T R s p y v h) := by
  have B := X.B
  have n2 := B.S.wf.n12
  have gd := gd_begin B
  refine GJo (s_X_rows_0 ?_)
  rw [gd.1, gd.2.2.2.1, gd.2.2.2.2.2]
  refine ⟨rfl, rfl, ?_⟩
  rw [Sh_hasHand_c B.S (by omega) a1 a2]
  unfold rowA
  by_cases q1 : 0 ≤ a ∧ a < sH s
  · obtain ⟨A, rfl⟩ : ∃ A : Nat, a = A := ⟨a.toNat, by omega⟩
    rw [if_pos (by rw [Bool.not_eq_true', decide_eq_false_iff_not, bI_0]; exact fun z => z q1), if_pos q1]
    by_cases q2 : 0 ≤ n ∧ n ≤ 12
    · obtain ⟨N, rfl⟩ : ∃ N : Nat, n = N := ⟨n.toNat, by omega⟩
      rw [if_neg (by rw [decide_eq_true_eq, z0, kI_lt (by omega) (by omega) (by omega) (by omega)]; omega), if_pos (by rw [decide_eq_true_eq, kI_le (by omega) (by omega) (by omega) (by omega)]; omega), if_pos q2, gd.1, gd.2.1, gd.2.2.1, gd.2.2.2.1, gd.2.2.2.2.1]
      refine ⟨rfl, rfl, rfl, rfl, ?_⟩
      refine X_begin B X.I X.v0 X.v1 X.hz (by omega) (by omega) (by omega) (fun h1 O1 g1 j1 => ?_)
      have gd1 := gd_begin (B.pt O1.1 O1.2.1)
      rw [gd1.1, gd1.2.1, gd1.2.2.1]
      refine ⟨rfl, rfl, ?_⟩
      refine X_tally O1 X.hz B.t g1 j1 X.v0 (by omega) (fun h2 O2 j19 j64 => ?_)
      have gd2 := gd_begin (B.pt O2.1 O2.2.1)
      have F2 := O2.2.1
      rw [gd2.1, gd2.2.1, gd2.2.2.1, rv_57_18 F2, kd_64 F2, ln_64 F2, ix_kI (by omega), j64 N (by omega), Int.toNat_natCast, Int.toNat_natCast]
      exact ⟨rfl, rfl, rfl, inB_kI (by omega) (by omega), rfl, O2⟩
    · rw [if_neg q2]
      by_cases q3 : n < 0
      · rw [if_pos (by rw [decide_eq_true_eq, z0, kI_lt (by omega) (by omega) (by omega) (by omega)]; omega)]
        exact ⟨rfl, OutG_rfl X⟩
      · rw [if_neg (by rw [decide_eq_true_eq, z0, kI_lt (by omega) (by omega) (by omega) (by omega)]; omega), if_neg (by rw [decide_eq_true_eq, kI_le (by omega) (by omega) (by omega) (by omega)]; omega)]
        exact ⟨rfl, OutG_rfl X⟩
  · rw [if_neg (by rw [Bool.not_eq_true', decide_eq_false_iff_not, bI_0]; exact fun z => z q1), if_neg q1]
    exact ⟨rfl, OutG_rfl X⟩
theorem X_ahead_g {T : Nat → Nat} {R : Nat → ST} {s : ST} {p : Nat} {y : DY} {v : Int} {hs : List DY} {nx : Nat} {h : AH} (X : XI T R s p y v hs nx h) {a c : Int} (a1 : -2147483648 ≤ a) (a2 : a ≤ 2147483647) (c1 : -2147483648 ≤ c) (c2 : c ≤ 2147483647) : GI 10 m_X_ahead [.ref 1, .int (kI a), .int (kI c)] h (kI (aheA s y a c)) (OutG T R s p y v h) := by
  have B := X.B
  have nb := noG_b s y a c
  have n2 := B.S.wf.n12
  have gd := gd_begin B
  refine GIo (s_X_ahead_0 ?_)
  rw [gd.1]
  refine ⟨rfl, ?_⟩
  rw [X_refusedCell_c B (by omega) a1 a2 c1 c2]
  unfold aheA
  by_cases q : noG s y a c = 0
  · obtain ⟨q1, q2, q3⟩ := noG_0 q
    obtain ⟨A, rfl⟩ : ∃ A : Nat, a = A := ⟨a.toNat, by omega⟩
    obtain ⟨e, rfl⟩ : ∃ e : Nat, c = e := ⟨c.toNat, by omega⟩
    rw [q, if_pos (by decide), if_pos rfl]
    rw [gd.1, gd.2.1, gd.2.2.1, gd.2.2.2.1, gd.2.2.2.2.1]
    refine ⟨rfl, rfl, rfl, rfl, ?_⟩
    refine X_begin B X.I X.v0 X.v1 X.hz (by omega) (by omega) (by omega) (fun h1 O1 g1 j1 => ?_)
    have gd1 := gd_begin (B.pt O1.1 O1.2.1)
    rw [gd1.1, gd1.2.1, gd1.2.2.1]
    refine ⟨rfl, rfl, ?_⟩
    rw [Int.toNat_natCast] at q3
    rw [Pa_needed_c g1.1 (by omega) (c := e) (by omega) q3, Int.toNat_natCast, Int.toNat_natCast]
    exact ⟨rfl, O1⟩
  · rw [if_neg (by rw [decide_eq_true_eq, z0, kI_inj (by omega) (by omega) (by omega) (by omega)]; exact q), if_neg q]
    exact ⟨rfl, OutG_rfl X⟩
theorem X_isNoGame_c {T : Nat → Nat} {s : ST} {p : Nat} {y : DY} {v : Int} {hs : List DY} {nx : Nat} {h : AH} (B : BX T s p y v hs nx h) {d : Nat} (hd : 2 ≤ d) {a b o : Int} (a1 : -2147483648 ≤ a) (a2 : a ≤ 2147483647) (b1 : -2147483648 ≤ b) (b2 : b ≤ 2147483647) (o1 : -2147483648 ≤ o) (o2 : o ≤ 2147483647) {K : Int32 → AH → Prop} : CallI d m_X_isNoGame [.ref 1, .int (kI a), .int (kI b), .int (kI o)] h K ↔ ((gmP s a b o → K (kI 0) h) ∧ (¬ gmP s a b o → K (kI 1) h)) := by
  have gd := gd_begin B
  have key : ∀ x : Int32, (x = kI 0 ∧ gmP s a b o) ∨ (x = kI 1 ∧ ¬ gmP s a b o) → Ret 2 m_X_isNoGame [.ref 1, .int (kI a), .int (kI b), .int (kI o)] h (some (.int x)) h := by
    intro x hx
    have x0 : gmP s a b o → x = kI 0 := fun z => by rcases hx with q | q; exact q.1; exact absurd z q.2
    have x1 : ¬ gmP s a b o → x = kI 1 := fun z => by rcases hx with q | q; exact absurd q.2 z; exact q.1
    refine ret_of (s_X_isNoGame_0 ?_)
    rw [gd.1, gd.2.2.2.1, gd.2.2.2.2.2]
    refine ⟨rfl, rfl, ?_⟩
    rw [Sh_hasHand_c B.S (by omega) a1 a2]
    by_cases q1 : 0 ≤ a ∧ a < sH s
    · rw [if_neg (by rw [dec_b0]; exact fun z => z q1), gd.1, gd.2.2.2.1, gd.2.2.2.2.2]
      refine ⟨rfl, rfl, ?_⟩
      rw [Sh_hasHand_c B.S (by omega) b1 b2]
      by_cases q2 : 0 ≤ b ∧ b < sH s
      · rw [if_neg (by rw [dec_b0]; exact fun z => z q2)]
        by_cases q3 : o < 0
        · rw [if_pos (by rw [decide_eq_true_eq, z0, kI_lt (by omega) (by omega) (by omega) (by omega)]; exact q3), x1 (fun z => by unfold gmP at z; omega)]
          exact ⟨isB_1, rfl, rfl⟩
        · rw [if_neg (by rw [decide_eq_true_eq, z0, kI_lt (by omega) (by omega) (by omega) (by omega)]; exact q3)]
          by_cases q4 : o ≤ 1
          · rw [if_pos (by rw [decide_eq_true_eq, kI_le (by omega) (by omega) (by omega) (by omega)]; exact q4), x0 ⟨q1, q2, by omega⟩]
            exact ⟨isB_0, rfl, rfl⟩
          · rw [if_neg (by rw [decide_eq_true_eq, kI_le (by omega) (by omega) (by omega) (by omega)]; exact q4), x1 (fun z => by unfold gmP at z; omega)]
            exact ⟨isB_1, rfl, rfl⟩
      · rw [if_pos (by rw [dec_b0]; exact q2), x1 (fun z => q2 z.2.1)]
        exact ⟨isB_1, rfl, rfl⟩
    · rw [if_pos (by rw [dec_b0]; exact q1), x1 (fun z => q1 z.1)]
      exact ⟨isB_1, rfl, rfl⟩
  by_cases g : gmP s a b o
  · rw [Ret.I (key (kI 0) (Or.inl ⟨rfl, g⟩)) hd]
    exact ⟨fun w => ⟨fun _ => w, fun z => absurd g z⟩, fun w => w.1 g⟩
  · rw [Ret.I (key (kI 1) (Or.inr ⟨rfl, g⟩)) hd]
    exact ⟨fun w => ⟨fun z => absurd z g, fun _ => w⟩, fun w => w.2 g⟩
theorem X_wins_g {T : Nat → Nat} {R : Nat → ST} {s : ST} {p : Nat} {y : DY} {v : Int} {hs : List DY} {nx : Nat} {h : AH} (X : XI T R s p y v hs nx h) {a b o : Nat} (h1 : a < sH s) (h2 : b < sH s) (h3 : o ≤ 1) : GI 10 m_X_wins [.ref 1, .int (kI a), .int (kI b), .int (kI o)] h (kI (winV s y a b o)) (OutG T R s p y v h) := by
  have B := X.B
  have n4 := B.S.wf.2.2.2.2.2.1
  have gd := gd_begin B
  have hD := B.wy.m12 B.S.wf
  have w4 := WT_4 B.S.wf (y := y) (a := a) (b := b) (l := yL y) h3 hD
  refine GIo (s_X_wins_0 ?_)
  rw [gd.1]
  refine ⟨rfl, ?_⟩
  rw [X_isNoGame_c B (by omega) (by omega) (by omega) (by omega) (by omega) (by omega) (by omega)]
  refine ⟨fun _ => ?_, fun z => absurd (gm_nat h1 h2 h3) z⟩
  rw [if_pos (by decide), gd.1, gd.2.1, gd.2.2.1, gd.2.2.2.1, gd.2.2.2.2.1]
  refine ⟨rfl, rfl, rfl, rfl, ?_⟩
  refine X_begin B X.I X.v0 X.v1 X.hz h1 h2 (by omega) (fun h1' O1 g1 j1 => ?_)
  have gd1 := gd_begin (B.pt O1.1 O1.2.1)
  rw [gd1.1, gd1.2.1, gd1.2.2.1]
  refine ⟨rfl, rfl, ?_⟩
  refine X_solve O1 X.hz B.t g1 j1 X.v0 (aim := 4) (tg := o) ⟨by omega, by omega, fun _ => h3, by omega⟩ (by omega) (fun h2' O2 g2 S2 => ?_)
  unfold winV
  by_cases q : 0 < WT s y a b 4 o (yD y) (yL y)
  · rw [if_neg (by rw [decide_eq_true_eq, z0, kI_le (by omega) (by omega) (by omega) (by omega)]; omega), if_pos q]
    exact ⟨rfl, O2⟩
  · rw [if_pos (by rw [decide_eq_true_eq, z0, kI_le (by omega) (by omega) (by omega) (by omega)]; omega), if_neg q]
    exact ⟨rfl, O2⟩
theorem X_wins_no {T : Nat → Nat} {s : ST} {p : Nat} {y : DY} {v : Int} {hs : List DY} {nx : Nat} {h : AH} (B : BX T s p y v hs nx h) {a b o : Int} (a1 : -2147483648 ≤ a) (a2 : a ≤ 2147483647) (b1 : -2147483648 ≤ b) (b2 : b ≤ 2147483647) (o1 : -2147483648 ≤ o) (o2 : o ≤ 2147483647) (no : ¬ gmP s a b o) : GI 3 m_X_wins [.ref 1, .int (kI a), .int (kI b), .int (kI o)] h (kI (-2)) (fun h' => h' = h) := by
  have gd := gd_begin B
  refine GIo (s_X_wins_0 ?_)
  rw [gd.1]
  refine ⟨rfl, ?_⟩
  rw [X_isNoGame_c B (by omega) a1 a2 b1 b2 o1 o2]
  exact ⟨fun z => absurd z no, fun _ => by rw [if_neg (by decide)]; exact ⟨rfl, rfl⟩⟩
theorem X_best_g {T : Nat → Nat} {R : Nat → ST} {s : ST} {p : Nat} {y : DY} {v : Int} {hs : List DY} {nx : Nat} {h : AH} (X : XI T R s p y v hs nx h) {a b o : Nat} (h1 : a < sH s) (h2 : b < sH s) (h3 : o ≤ 1) : GI 10 m_X_best [.ref 1, .int (kI a), .int (kI b), .int (kI o)] h (kI (besV s y a b o)) (OutG T R s p y v h) := by
  have B := X.B
  have n4 := B.S.wf.2.2.2.2.2.1
  have gd := gd_begin B
  have hD := B.wy.m12 B.S.wf
  have w4 := WT_4 B.S.wf (y := y) (a := a) (b := b) (l := yL y) h3 hD
  refine GIo (s_X_best_0 ?_)
  rw [gd.1]
  refine ⟨rfl, ?_⟩
  rw [X_isNoGame_c B (by omega) (by omega) (by omega) (by omega) (by omega) (by omega) (by omega)]
  refine ⟨fun _ => ?_, fun z => absurd (gm_nat h1 h2 h3) z⟩
  rw [if_pos (by decide), gd.1, gd.2.1, gd.2.2.1, gd.2.2.2.1, gd.2.2.2.2.1]
  refine ⟨rfl, rfl, rfl, rfl, ?_⟩
  refine X_begin B X.I X.v0 X.v1 X.hz h1 h2 (by omega) (fun h1' O1 g1 j1 => ?_)
  have gd1 := gd_begin (B.pt O1.1 O1.2.1)
  rw [gd1.1, gd1.2.1, gd1.2.2.1]
  refine ⟨rfl, rfl, ?_⟩
  refine X_solve O1 X.hz B.t g1 j1 X.v0 (aim := 4) (tg := o) ⟨by omega, by omega, fun _ => h3, by omega⟩ (by omega) (fun h2' O2 g2 S2 => ?_)
  have gd2 := gd_begin (B.pt O2.1 O2.2.1)
  rw [gd2.1, gd2.2.1, gd2.2.2.1]
  refine ⟨rfl, rfl, ?_⟩
  rw [Pa_firstWinning_c g2.1 S2 (by omega)]
  exact ⟨rfl, O2⟩
theorem X_best_no {T : Nat → Nat} {s : ST} {p : Nat} {y : DY} {v : Int} {hs : List DY} {nx : Nat} {h : AH} (B : BX T s p y v hs nx h) {a b o : Int} (a1 : -2147483648 ≤ a) (a2 : a ≤ 2147483647) (b1 : -2147483648 ≤ b) (b2 : b ≤ 2147483647) (o1 : -2147483648 ≤ o) (o2 : o ≤ 2147483647) (no : ¬ gmP s a b o) : GI 3 m_X_best [.ref 1, .int (kI a), .int (kI b), .int (kI o)] h (kI (-2)) (fun h' => h' = h) := by
  have gd := gd_begin B
  refine GIo (s_X_best_0 ?_)
  rw [gd.1]
  refine ⟨rfl, ?_⟩
  rw [X_isNoGame_c B (by omega) a1 a2 b1 b2 o1 o2]
  exact ⟨fun z => absurd z no, fun _ => by rw [if_neg (by decide)]; exact ⟨rfl, rfl⟩⟩
theorem X_lasts_g {T : Nat → Nat} {R : Nat → ST} {s : ST} {p : Nat} {y : DY} {v : Int} {hs : List DY} {nx : Nat} {h : AH} (X : XI T R s p y v hs nx h) {a b o : Nat} (h1 : a < sH s) (h2 : b < sH s) (h3 : o ≤ 1) : GI 10 m_X_lasts [.ref 1, .int (kI a), .int (kI b), .int (kI o)] h (kI (lasV s y a b o)) (OutG T R s p y v h) := by
  have B := X.B
  have n4 := B.S.wf.2.2.2.2.2.1
  have gd := gd_begin B
  have hD := B.wy.m12 B.S.wf
  have w4 := WT_4 B.S.wf (y := y) (a := a) (b := b) (l := yL y) h3 hD
  refine GIo (s_X_lasts_0 ?_)
  rw [gd.1]
  refine ⟨rfl, ?_⟩
  rw [X_isNoGame_c B (by omega) (by omega) (by omega) (by omega) (by omega) (by omega) (by omega)]
  refine ⟨fun _ => ?_, fun z => absurd (gm_nat h1 h2 h3) z⟩
  rw [if_pos (by decide), gd.1, gd.2.1, gd.2.2.1, gd.2.2.2.1, gd.2.2.2.2.1]
  refine ⟨rfl, rfl, rfl, rfl, ?_⟩
  refine X_begin B X.I X.v0 X.v1 X.hz h1 h2 (by omega) (fun h1' O1 g1 j1 => ?_)
  have gd1 := gd_begin (B.pt O1.1 O1.2.1)
  rw [gd1.1, gd1.2.1, gd1.2.2.1]
  refine ⟨rfl, rfl, ?_⟩
  refine X_solve O1 X.hz B.t g1 j1 X.v0 (aim := 4) (tg := o) ⟨by omega, by omega, fun _ => h3, by omega⟩ (by omega) (fun h2' O2 g2 S2 => ?_)
  unfold lasV
  by_cases q : 0 < WT s y a b 4 o (yD y) (yL y)
  · rw [if_pos (by rw [z0, kI_le (by omega) (by omega) (by omega) (by omega)]; omega), if_pos q, kI_sub]
    exact ⟨rfl, O2⟩
  · rw [if_neg (by rw [z0, kI_le (by omega) (by omega) (by omega) (by omega)]; omega), if_neg q, z0, kI_sub, kI_sub]
    refine ⟨?_, O2⟩
    show some (Value.int _) = some (Value.int _)
    congr 3
    omega
theorem X_lasts_no {T : Nat → Nat} {s : ST} {p : Nat} {y : DY} {v : Int} {hs : List DY} {nx : Nat} {h : AH} (B : BX T s p y v hs nx h) {a b o : Int} (a1 : -2147483648 ≤ a) (a2 : a ≤ 2147483647) (b1 : -2147483648 ≤ b) (b2 : b ≤ 2147483647) (o1 : -2147483648 ≤ o) (o2 : o ≤ 2147483647) (no : ¬ gmP s a b o) : GI 3 m_X_lasts [.ref 1, .int (kI a), .int (kI b), .int (kI o)] h (kI (-2)) (fun h' => h' = h) := by
  have gd := gd_begin B
  refine GIo (s_X_lasts_0 ?_)
  rw [gd.1]
  refine ⟨rfl, ?_⟩
  rw [X_isNoGame_c B (by omega) a1 a2 b1 b2 o1 o2]
  exact ⟨fun z => absurd z no, fun _ => by rw [if_neg (by decide)]; exact ⟨rfl, rfl⟩⟩
