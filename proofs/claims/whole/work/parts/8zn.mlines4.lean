/-! a line of the reference, and its end -/
def GW (g : LG) : Prop := ∃ R W H D : Nat, g 1 = R ∧ g 2 = W ∧ g 3 = H ∧ g 22 = D ∧ 1 ≤ R ∧ 1 ≤ W ∧ R * W ≤ 12 ∧ H ≤ 4
def linF (tp : Nat → Nat) (n a : Nat) (g : LG) (cs : List Nat) : LR := if tKd tp n a = 1 then rowF tp n a g cs else if tKd tp n a = 2 then hanF tp n a g cs else if tKd tp n a = 4 ∨ tKd tp n a = 5 then drwF tp n (decide (tKd tp n a = 5)) a g cs else if tKd tp n a = 6 ∨ tKd tp n a = 7 then lawF tp n (tKd tp n a - 6) a g cs else .error (fkF tp n a 2, a)
def endF (tp : Nat → Nat) (n a : Nat) (g : LG) (cs : List Nat) : LR := if tKd tp n a = 30 then .ok (nxA tp n a, upG g 0 (g 0 + 1), cs) else .error (fkF tp n a 2, a)
theorem M_readLine_d {h : AH} (B : MBd h) {d : Nat} (hd : 1 ≤ d) {K : AH → Prop} : CallV d m_M_readLine [.ref 88] h K ↔ K h := by
  refine Ret.V (d := 1) (ret_of (s_M_readLine_0 ?_)) hd
  rw [kd_88 B.1, if_neg B.nz.2]
  exact ⟨rfl, rfl, rfl⟩
theorem M_readLine_g {tp : Nat → Nat} {n law a : Nat} {g : LG} {cs : List Nat} {h : AH} (hn : n ≤ 900) (M : ML tp n law a g cs h) (hl : law ≤ 4294967295) (G : GW g) (le : cs.length ≤ a) : GV 41 m_M_readLine [.ref 88] h (MPl tp n (linF tp n a g cs) h) := by
  obtain ⟨R, W, H, D, gR, gW, gH, gD, r1, w1, rw12, h4⟩ := G
  have S := M.1
  have F := S.F
  have kb := tKd_b tp n a
  have yes : ∀ {k : Nat}, tKd tp n a = k → ¬ decide (bI32 (tKd tp n a = k) = 0) = true := fun z => by rw [dec_b0]; exact fun y => y z
  have no : ∀ {k : Nat}, tKd tp n a ≠ k → decide (bI32 (tKd tp n a = k) = 0) = true := fun z => by rw [dec_b0]; exact z
  have yes' : ∀ {k : Nat}, tKd tp n a = k → (!decide (bI32 (tKd tp n a = k) = 0)) = true := fun z => by rw [Bool.not_eq_true', decide_eq_false_iff_not, bI_0]; exact fun y => y z
  have no' : ∀ {k : Nat}, tKd tp n a ≠ k → ¬ (!decide (bI32 (tKd tp n a = k) = 0)) = true := fun z => by rw [Bool.not_eq_true', decide_eq_false_iff_not, bI_0]; exact fun y => y z
  refine GVo (s_M_readLine_0 ?_)
  rw [kd_88 F, S.i11, if_pos (by decide)]
  refine ⟨rfl, rfl, (M_is_c S (k := 1) (by omega) (by omega)).mpr ?_⟩
  unfold linF
  by_cases q1 : tKd tp n a = 1
  · rw [if_neg (yes q1), if_pos q1, kd_88 F]
    refine ⟨rfl, ?_⟩
    exact GV.use (M_readRow_g M hl gR gW r1 w1 rw12) (by omega) (fun h' e => ⟨rfl, e⟩)
  rw [if_pos (no q1), if_neg q1, kd_88 F]
  refine ⟨rfl, (M_is_c S (k := 2) (by omega) (by omega)).mpr ?_⟩
  by_cases q2 : tKd tp n a = 2
  · rw [if_neg (yes q2), if_pos q2, kd_88 F]
    refine ⟨rfl, ?_⟩
    exact GV.use (M_readHand_g M hl gH h4 q2) (by omega) (fun h' e => ⟨rfl, e⟩)
  rw [if_pos (no q2), if_neg q2, kd_88 F]
  refine ⟨rfl, (M_is_c S (k := 4) (by omega) (by omega)).mpr ?_⟩
  have s54 : Safe 40 m_M_readLine (54, [.ref 88], [], h) (fun v h' => Eqv v none ∧ MPl tp n (drwF tp n (decide (tKd tp n a = 5)) a g cs) h h') := by
    refine s_M_readLine_54 ?_
    rw [kd_88 F]
    refine ⟨rfl, (M_is_c S (k := 5) (by omega) (by omega)).mpr ?_⟩
    rw [kd_88 F]
    refine ⟨rfl, ?_⟩
    exact GV.use (M_readDrawn_g M hl gR gW gD r1 w1 rw12 (tKd tp n a = 5)) (by omega) (fun h' e => ⟨rfl, e⟩)
  by_cases q4 : tKd tp n a = 4
  · rw [if_pos (yes' q4), if_pos (Or.inl q4)]
    exact s54
  rw [if_neg (no' q4), kd_88 F]
  refine ⟨rfl, (M_is_c S (k := 5) (by omega) (by omega)).mpr ?_⟩
  by_cases q5 : tKd tp n a = 5
  · rw [if_neg (yes q5), if_pos (Or.inr q5)]
    exact s54
  rw [if_pos (no q5), if_neg (show ¬ (tKd tp n a = 4 ∨ tKd tp n a = 5) by omega), kd_88 F]
  refine ⟨rfl, (M_is_c S (k := 6) (by omega) (by omega)).mpr ?_⟩
  have s84 : (tKd tp n a = 6 ∨ tKd tp n a = 7) → Safe 40 m_M_readLine (84, [.ref 88], [], h) (fun v h' => Eqv v none ∧ MPl tp n (lawF tp n (tKd tp n a - 6) a g cs) h h') := fun z => by
    refine s_M_readLine_84 ?_
    rw [kd_88 F, S.i9, kI_sub, show ((tKd tp n a : Nat) : Int) - 6 = ((tKd tp n a - 6 : Nat) : Int) by omega]
    refine ⟨rfl, rfl, ?_⟩
    exact GV.use (M_readLaw_g hn M (law := tKd tp n a - 6) (by omega) (kd_n (tp := tp) (n := n) (a := a) (by omega)) le) (by omega) (fun h' e => ⟨rfl, e⟩)
  by_cases q6 : tKd tp n a = 6
  · rw [if_pos (yes' q6), if_pos (Or.inl q6)]
    exact s84 (Or.inl q6)
  rw [if_neg (no' q6), kd_88 F]
  refine ⟨rfl, (M_is_c S (k := 7) (by omega) (by omega)).mpr ?_⟩
  by_cases q7 : tKd tp n a = 7
  · rw [if_neg (yes q7), if_pos (Or.inr q7)]
    exact s84 (Or.inr q7)
  rw [if_pos (no q7), if_neg (show ¬ (tKd tp n a = 6 ∨ tKd tp n a = 7) by omega), kd_88 F]
  refine ⟨rfl, ?_⟩
  exact GV.use (M_fails_g S (k := 2) (by omega) (by omega)) (by omega) (fun h' e => ⟨rfl, ln_of e.1, e.2⟩)
theorem M_ends1_14 {h : AH} (F : Fix h) {d : Nat} {Q : Option Value → AH → Prop} (q : Q none (stI h 92 0 (ivA h 92 0 + kI 1))) : Safe d m_M_ends1 (14, [.ref 88], [], h) Q := by
  have b0 : inB (kI 0) 1001 = true := inB_lit (by omega) (by omega) (by omega)
  have x0 : ix (kI 0) = 0 := ix_kI (n := 0) (by omega)
  refine s_M_ends1_14 ?_
  rw [kd_88 F, rv_88_4 F, kd_92 F, ln_92 F, b0, x0]
  exact ⟨rfl, rfl, rfl, rfl, rfl, q⟩
theorem M_ends1_g {tp : Nat → Nat} {n law a : Nat} {g : LG} {cs : List Nat} {h : AH} (M : ML tp n law a g cs h) (hl : law ≤ 4294967295) : GV 8 m_M_ends1 [.ref 88] h (MPl tp n (endF tp n a g cs) h) := by
  have S := M.1
  refine GVo (s_M_ends1_0 ?_)
  rw [kd_88 S.F]
  refine ⟨rfl, ?_⟩
  unfold endF
  by_cases q : tKd tp n a = 30
  · rw [if_pos q]
    refine GI.use (M_eats_y S (k := 30) q) (by omega) (fun h1 e1 => ?_)
    have M1 := M.rd e1.1 e1.2
    rw [if_pos (by decide)]
    refine M_ends1_14 M1.1.F ?_
    rw [M1.2 0 (by omega), kI_add]
    have M2 := M1.st (k := 0) (by omega) (g 0 + 1)
    exact ⟨rfl, (ln_of e1.1).trans M2.2, law, hl, M2.1⟩
  · rw [if_neg q]
    refine (M_eats_n S (k := 30) (by omega) q (by omega)).mpr ?_
    rw [if_neg (by decide), kd_88 S.F]
    refine ⟨rfl, ?_⟩
    refine GV.use (M_fails_g S (k := 2) (by omega) (by omega)) (by omega) (fun h1 e1 => ?_)
    obtain ⟨e1, B, y1, y2⟩ := e1
    refine M_ends1_14 B.1 ?_
    obtain ⟨B6, f6, i6⟩ := B.st 0 (ivA h1 92 0 + kI 1)
    exact ⟨rfl, (ln_of e1).trans f6, B6, by rw [i6]; exact y1, by rw [i6]; exact y2⟩
theorem M_ends1_d {h : AH} (B : MBd h) : GV 8 m_M_ends1 [.ref 88] h (fun h' => FLn h h' ∧ MBd h' ∧ ivA h' 88 11 = ivA h 88 11 ∧ ivA h' 88 12 = ivA h 88 12) := by
  refine GVo (s_M_ends1_0 ?_)
  rw [kd_88 B.1, M_eats_d B (by omega), if_neg (by decide), kd_88 B.1, M_fails_d B (by omega)]
  obtain ⟨B6, f6, i6⟩ := B.st 0 (ivA h 92 0 + kI 1)
  exact ⟨rfl, rfl, M_ends1_14 B.1 ⟨rfl, f6, B6, i6 11, i6 12⟩⟩
