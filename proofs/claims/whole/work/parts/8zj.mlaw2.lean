/-! the reference reads units and truths -/
theorem M_s5 {tp : Nat → Nat} {n law f : Nat} (hn : n ≤ 900) (H1 : MC3 tp n law f) (H2 : MC5 tp n law f) (H3 : MC9 tp n law f) : MC5 tp n law (f + 1) := by
  intro deep a cs h hd S le hf
  have kb := tKd_b tp n a
  have an0 := S.an
  refine GVo (s_M_readUnit_0 ?_)
  rw [kd_88 S.F]
  refine ⟨rfl, (M_is_c S (k := 15) (by omega) (by omega)).mpr ?_⟩
  have un : PP tp n law (f + 1) 5 deep a cs = if tKd tp n a = 15 then (if deep = 6 then .error (4, a) else thn (PP tp n law f 5 (deep + 1) (nxA tp n a) cs) (fun a' cs' => .ok (a', cs' ++ [3006]))) else if tKd tp n a = 37 then (if deep = 6 then .error (4, a) else thn (PP tp n law f 9 (deep + 1) (nxA tp n a) cs) (fun a' cs' => if tKd tp n a' = 38 then .ok (nxA tp n a', cs') else .error (fkF tp n a' 2, a'))) else thn (PP tp n law f 3 deep a cs) (fun a' cs' => if tKd tp n a' = 39 ∨ tKd tp n a' = 40 ∨ tKd tp n a' = 41 then thn (PP tp n law f 3 deep (nxA tp n a') cs') (fun a2 cs2 => .ok (a2, cs2 ++ [3003 + (tKd tp n a' - 39)])) else .error (fkF tp n a' 2, a')) := rfl
  rw [un]
  by_cases q : tKd tp n a = 15
  · rw [if_neg (by rw [dec_b0]; exact fun y => y q), if_pos q, kd_88 S.F]
    refine ⟨rfl, ?_⟩
    by_cases q3 : deep = 6
    · rw [if_pos q3, q3]
      refine GI.use (M_goesIn_n S (by omega)) (by omega) (fun h1 e1 => ?_)
      rw [if_neg (by decide)]
      exact ⟨rfl, e1.1, e1.2⟩
    · rw [if_neg q3]
      have an := kd_n (tp := tp) (n := n) (a := a) (by omega)
      have nb := nxA_b (tp := tp) an
      refine GI.use (M_goesIn_y S (deep := deep) (by omega)) (by omega) (fun h1 e1 => ?_)
      rw [if_pos (by decide), kd_88 e1.2.F, kI_add]
      refine ⟨rfl, ?_⟩
      refine GV.use (H2 (deep + 1) (nxA tp n a) cs h1 (by omega) e1.2 (by omega) (by omega)) (by omega) (fun h2 e2 => ?_)
      cases hr : PP tp n law f 5 (deep + 1) (nxA tp n a) cs with
      | error e =>
        rw [hr] at e2
        have B := e2.2.1
        rw [kd_88 B.1, M_codes_d B (by omega)]
        exact ⟨rfl, rfl, e1.1.trans e2.1, e2.2⟩
      | ok p =>
        rw [hr] at e2
        have S2 := e2.2
        have g := PP_go f 5 (deep + 1) (nxA tp n a) cs p.1 p.2 (by omega) nb.2 hr
        rw [kd_88 S2.F]
        refine ⟨rfl, ?_⟩
        exact GV.use (M_codes_g S2 (by omega) 3006) (by omega) (fun h3 e3 => ⟨rfl, e1.1.trans (e2.1.trans e3.1), e3.2⟩)
  · rw [if_pos (by rw [dec_b0]; exact q), if_neg q, kd_88 S.F]
    refine ⟨rfl, (M_is_c S (k := 37) (by omega) (by omega)).mpr ?_⟩
    by_cases q2 : tKd tp n a = 37
    · rw [if_neg (by rw [dec_b0]; exact fun y => y q2), if_pos q2, kd_88 S.F]
      refine ⟨rfl, ?_⟩
      by_cases q3 : deep = 6
      · rw [if_pos q3, q3]
        refine GI.use (M_goesIn_n S (by omega)) (by omega) (fun h1 e1 => ?_)
        rw [if_neg (by decide)]
        exact ⟨rfl, e1.1, e1.2⟩
      · rw [if_neg q3]
        have an := kd_n (tp := tp) (n := n) (a := a) (by omega)
        have nb := nxA_b (tp := tp) an
        refine GI.use (M_goesIn_y S (deep := deep) (by omega)) (by omega) (fun h1 e1 => ?_)
        rw [if_pos (by decide), kd_88 e1.2.F, kI_add]
        refine ⟨rfl, ?_⟩
        refine GV.use (H3 (deep + 1) (nxA tp n a) cs h1 (by omega) e1.2 (by omega) (by omega)) (by omega) (fun h2 e2 => ?_)
        cases hr : PP tp n law f 9 (deep + 1) (nxA tp n a) cs with
        | error e =>
          rw [hr] at e2
          have B := e2.2.1
          rw [kd_88 B.1, M_eats_d B (by omega), if_neg (by decide), kd_88 B.1, M_fails_d B (by omega)]
          exact ⟨rfl, rfl, rfl, e1.1.trans e2.1, e2.2⟩
        | ok p =>
          rw [hr] at e2
          have S2 := e2.2
          show _ ∧ CallI _ _ _ _ _
          rw [kd_88 S2.F]
          refine ⟨rfl, ?_⟩
          by_cases q4 : tKd tp n p.1 = 38
          · have eT : thn (.ok p) (fun a' cs' => if tKd tp n a' = 38 then (.ok (nxA tp n a', cs') : PR) else .error (fkF tp n a' 2, a')) = .ok (nxA tp n p.1, p.2) := by
              show (if tKd tp n p.1 = 38 then _ else _) = _
              rw [if_pos q4]
            rw [eT]
            refine GI.use (M_eats_y S2 (k := 38) q4) (by omega) (fun h3 e3 => ?_)
            rw [if_pos (by decide)]
            exact ⟨rfl, e1.1.trans (e2.1.trans e3.1), e3.2⟩
          · have eT : thn (.ok p) (fun a' cs' => if tKd tp n a' = 38 then (.ok (nxA tp n a', cs') : PR) else .error (fkF tp n a' 2, a')) = .error (fkF tp n p.1 2, p.1) := by
              show (if tKd tp n p.1 = 38 then _ else _) = _
              rw [if_neg q4]
            rw [eT]
            refine (M_eats_n S2 (k := 38) (by omega) q4 (by omega)).mpr ?_
            rw [if_neg (by decide), kd_88 S2.F]
            refine ⟨rfl, ?_⟩
            exact GV.use (M_fails_g S2 (k := 2) (by omega) (by omega)) (by omega) (fun h3 e3 => ⟨rfl, e1.1.trans (e2.1.trans e3.1), e3.2⟩)
    · rw [if_pos (by rw [dec_b0]; exact q2), if_neg q2, kd_88 S.F]
      refine ⟨rfl, ?_⟩
      refine GV.use (H1 deep a cs h hd S le (by omega)) (by omega) (fun h1 e1 => ?_)
      cases hr : PP tp n law f 3 deep a cs with
      | error e =>
        rw [hr] at e1
        have B := e1.2.1
        rw [kd_88 B.1, M_is_d B (by omega), if_pos (by decide), kd_88 B.1, M_is_d B (by omega), if_pos (by decide)]
        exact ⟨rfl, rfl, M_readUnit_111d B (by omega) ⟨rfl, e1⟩⟩
      | ok p =>
        rw [hr] at e1
        have S1 := e1.2
        have g := PP_go f 3 deep a cs p.1 p.2 (by omega) an0 hr
        have g2 := g.2.2.2 (by unfold lpM; omega)
        show _ ∧ CallI _ _ _ _ _
        rw [kd_88 S1.F]
        by_cases q4 : tKd tp n p.1 = 39 ∨ tKd tp n p.1 = 40 ∨ tKd tp n p.1 = 41
        · have bn := kd_n (tp := tp) (n := n) (a := p.1) (by omega)
          have nb2 := nxA_b (tp := tp) bn
          obtain ⟨x, hx⟩ : ∃ x : Nat, x = 3003 + (tKd tp n p.1 - 39) := ⟨_, rfl⟩
          have eT : thn (.ok p) (fun a' cs' => if tKd tp n a' = 39 ∨ tKd tp n a' = 40 ∨ tKd tp n a' = 41 then thn (PP tp n law f 3 deep (nxA tp n a') cs') (fun a2 cs2 => (.ok (a2, cs2 ++ [3003 + (tKd tp n a' - 39)]) : PR)) else .error (fkF tp n a' 2, a')) = thn (PP tp n law f 3 deep (nxA tp n p.1) p.2) (fun a2 cs2 => (.ok (a2, cs2 ++ [x]) : PR)) := by
            show (if tKd tp n p.1 = 39 ∨ tKd tp n p.1 = 40 ∨ tKd tp n p.1 = 41 then _ else _) = _
            rw [if_pos q4, hx]
          rw [eT]
          have s139 : Safe (3 * (6 - deep) + 11) m_M_readUnit (139, [.ref 88, .int (kI (deep : Nat)), .int (kI (x : Nat))], [], h1) (fun v h' => Eqv v none ∧ MPo tp n law (thn (PP tp n law f 3 deep (nxA tp n p.1) p.2) (fun a2 cs2 => (.ok (a2, cs2 ++ [x]) : PR))) h h') := by
            refine s_M_readUnit_139 ?_
            rw [kd_88 S1.F]
            refine ⟨rfl, ?_⟩
            refine GV.use (M_nextS S1) (by omega) (fun h2 e2 => ?_)
            refine s_M_readUnit_151 ?_
            rw [kd_88 e2.2.F]
            refine ⟨rfl, ?_⟩
            refine GV.use (H1 deep (nxA tp n p.1) p.2 h2 hd e2.2 (by omega) (by omega)) (by omega) (fun h3 e3 => ?_)
            cases hr2 : PP tp n law f 3 deep (nxA tp n p.1) p.2 with
            | error e =>
              rw [hr2] at e3
              have B := e3.2.1
              rw [kd_88 B.1, M_codes_d B (by omega)]
              exact ⟨rfl, rfl, e1.1.trans (e2.1.trans e3.1), e3.2⟩
            | ok r =>
              rw [hr2] at e3
              have S3 := e3.2
              have g3 := PP_go f 3 deep (nxA tp n p.1) p.2 r.1 r.2 (by omega) nb2.2 hr2
              rw [kd_88 S3.F]
              refine ⟨rfl, ?_⟩
              exact GV.use (M_codes_g S3 (by omega) x) (by omega) (fun h4 e4 => ⟨rfl, e1.1.trans (e2.1.trans (e3.1.trans e4.1)), e4.2⟩)
          have s111 : Safe (3 * (6 - deep) + 11) m_M_readUnit (111, [.ref 88, .int (kI (deep : Nat)), unV], [.int (kI (x : Nat))], h1) (fun v h' => Eqv v none ∧ MPo tp n law (thn (PP tp n law f 3 deep (nxA tp n p.1) p.2) (fun a2 cs2 => (.ok (a2, cs2 ++ [x]) : PR))) h h') := by
            refine s_M_readUnit_111 ?_
            rw [kd_88 S1.F]
            refine ⟨rfl, (M_is_c S1 (k := 39) (by omega) (by omega)).mpr ?_⟩
            by_cases z1 : tKd tp n p.1 = 39
            · rw [if_pos (by rw [Bool.not_eq_true', decide_eq_false_iff_not, bI_0]; exact fun y => y z1)]
              exact s139
            · rw [if_neg (by rw [Bool.not_eq_true', decide_eq_false_iff_not, bI_0]; exact fun y => y z1), kd_88 S1.F]
              refine ⟨rfl, (M_is_c S1 (k := 40) (by omega) (by omega)).mpr ?_⟩
              by_cases z2 : tKd tp n p.1 = 40
              · rw [if_pos (by rw [Bool.not_eq_true', decide_eq_false_iff_not, bI_0]; exact fun y => y z2)]
                exact s139
              · rw [if_neg (by rw [Bool.not_eq_true', decide_eq_false_iff_not, bI_0]; exact fun y => y z2), kd_88 S1.F]
                refine ⟨rfl, (M_is_c S1 (k := 41) (by omega) (by omega)).mpr ?_⟩
                rw [if_neg (by rw [dec_b0]; exact fun y => y (by omega))]
                exact s139
          refine ⟨rfl, (M_is_c S1 (k := 39) (by omega) (by omega)).mpr ?_⟩
          by_cases z1 : tKd tp n p.1 = 39
          · rw [if_neg (by rw [dec_b0]; exact fun y => y z1)]
            rw [z1] at hx
            rw [hx] at s111 ⊢
            exact s111
          · rw [if_pos (by rw [dec_b0]; exact z1), kd_88 S1.F]
            refine ⟨rfl, (M_is_c S1 (k := 40) (by omega) (by omega)).mpr ?_⟩
            by_cases z2 : tKd tp n p.1 = 40
            · rw [if_neg (by rw [dec_b0]; exact fun y => y z2)]
              rw [z2] at hx
              rw [hx] at s111 ⊢
              exact s111
            · rw [if_pos (by rw [dec_b0]; exact z2)]
              rw [show tKd tp n p.1 = 41 by omega] at hx
              rw [hx] at s111 ⊢
              exact s111
        · have eT : thn (.ok p) (fun a' cs' => if tKd tp n a' = 39 ∨ tKd tp n a' = 40 ∨ tKd tp n a' = 41 then thn (PP tp n law f 3 deep (nxA tp n a') cs') (fun a2 cs2 => (.ok (a2, cs2 ++ [3003 + (tKd tp n a' - 39)]) : PR)) else .error (fkF tp n a' 2, a')) = .error (fkF tp n p.1 2, p.1) := by
            show (if tKd tp n p.1 = 39 ∨ tKd tp n p.1 = 40 ∨ tKd tp n p.1 = 41 then _ else _) = _
            rw [if_neg q4]
          rw [eT]
          refine ⟨rfl, (M_is_c S1 (k := 39) (by omega) (by omega)).mpr ?_⟩
          rw [if_pos (by rw [dec_b0]; omega), kd_88 S1.F]
          refine ⟨rfl, (M_is_c S1 (k := 40) (by omega) (by omega)).mpr ?_⟩
          rw [if_pos (by rw [dec_b0]; omega)]
          refine s_M_readUnit_111 ?_
          rw [kd_88 S1.F]
          refine ⟨rfl, (M_is_c S1 (k := 39) (by omega) (by omega)).mpr ?_⟩
          rw [if_neg (by rw [Bool.not_eq_true', decide_eq_false_iff_not, bI_0]; exact fun y => y (by omega)), kd_88 S1.F]
          refine ⟨rfl, (M_is_c S1 (k := 40) (by omega) (by omega)).mpr ?_⟩
          rw [if_neg (by rw [Bool.not_eq_true', decide_eq_false_iff_not, bI_0]; exact fun y => y (by omega)), kd_88 S1.F]
          refine ⟨rfl, (M_is_c S1 (k := 41) (by omega) (by omega)).mpr ?_⟩
          rw [if_pos (by rw [dec_b0]; omega), kd_88 S1.F]
          refine ⟨rfl, ?_⟩
          refine GV.use (M_fails_g S1 (k := 2) (by omega) (by omega)) (by omega) (fun h3 e3 => ?_)
          exact M_readUnit_151d e3.2.1 (by omega) ⟨rfl, e1.1.trans e3.1, e3.2⟩
theorem M_parse {tp : Nat → Nat} {n law : Nat} (hn : n ≤ 900) (hl : law ≤ 1) : ∀ f, MC0 tp n law f ∧ MC1 tp n law f ∧ MC2 tp n law f ∧ MC3 tp n law f ∧ MC4 tp n law f ∧ MC5 tp n law f ∧ MC6 tp n law f ∧ MC7 tp n law f ∧ MC8 tp n law f ∧ MC9 tp n law f := by
  intro f
  induction f with
  | zero => exact ⟨fun _ _ _ _ _ _ _ hf => by omega, fun _ _ _ _ _ _ _ hf => by omega, fun _ _ _ _ _ _ _ _ _ hf => by omega, fun _ _ _ _ _ _ _ hf => by omega, fun _ _ _ _ _ _ _ _ _ hf => by omega, fun _ _ _ _ _ _ _ hf => by omega, fun _ _ _ _ _ _ _ hf => by omega, fun _ _ _ _ _ _ _ _ _ hf => by omega, fun _ _ _ _ _ _ _ _ _ hf => by omega, fun _ _ _ _ _ _ _ hf => by omega⟩
  | succ f ih =>
    obtain ⟨i0, i1, i2, i3, i4, i5, i6, i7, i8, i9⟩ := ih
    exact ⟨M_s0 hn hl i3, M_s1 i0 i2, M_s2 hn i0 i2, M_s3 i1 i4, M_s4 hn i1 i4, M_s5 hn i3 i5 i9, M_s6 i5 i7, M_s7 hn i5 i7, M_s8 hn i6 i8, M_s9 i6 i8⟩
