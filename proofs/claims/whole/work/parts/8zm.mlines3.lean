/-! drawn and last lines, and laws, of the reference -/
def drwF (tp : Nat → Nat) (n : Nat) (last : Bool) (a : Nat) (g : LG) (cs : List Nat) : LR := match tkF tp n 0 ((g 1).toNat * (g 2).toNat - 1) (nxA tp n a) with
  | .error e => .error e
  | .ok q => .ok (q.1, (if last = true then upG (upG g 22 (((g 22).toNat ||| 2 ^ q.2 : Nat) : Int)) 23 (q.2 : Nat) else upG g 22 (((g 22).toNat ||| 2 ^ q.2 : Nat) : Int)), cs)
theorem M_readDrawn_g {tp : Nat → Nat} {n law a : Nat} {g : LG} {cs : List Nat} {h : AH} (M : ML tp n law a g cs h) (hl : law ≤ 4294967295) {R W D : Nat} (gR : g 1 = R) (gW : g 2 = W) (gD : g 22 = D) (r1 : 1 ≤ R) (w1 : 1 ≤ W) (rw : R * W ≤ 12) (P : Prop) [Decidable P] : GV 8 m_M_readDrawn [.ref 88, .int (bI32 P)] h (MPl tp n (drwF tp n (decide P) a g cs) h) := by
  have S := M.1
  have R12 : R ≤ 12 := Nat.le_trans (Nat.le_mul_of_pos_right R w1) rw
  have W12 : W ≤ 12 := Nat.le_trans (Nat.le_mul_of_pos_left W r1) rw
  have rw1 : 1 ≤ R * W := Nat.mul_pos r1 w1
  have b1 : inB (kI 1) 1001 = true := inB_lit (by omega) (by omega) (by omega)
  have b2 : inB (kI 2) 1001 = true := inB_lit (by omega) (by omega) (by omega)
  have b22 : inB (kI 22) 1001 = true := inB_lit (by omega) (by omega) (by omega)
  have b23 : inB (kI 23) 1001 = true := inB_lit (by omega) (by omega) (by omega)
  have x1 : ix (kI 1) = 1 := ix_kI (n := 1) (by omega)
  have x2 : ix (kI 2) = 2 := ix_kI (n := 2) (by omega)
  have x22 : ix (kI 22) = 22 := ix_kI (n := 22) (by omega)
  have x23 : ix (kI 23) = 23 := ix_kI (n := 23) (by omega)
  refine GVo (s_M_readDrawn_0 ?_)
  rw [kd_88 S.F]
  refine ⟨rfl, ?_⟩
  refine GV.use (M_nextS S) (by omega) (fun h1 e1 => ?_)
  have M1 := M.rd e1.1 e1.2
  have S1 := e1.2
  have F1 := S1.F
  rw [kd_88 F1, rv_88_4 F1, kd_92 F1, ln_92 F1, x1, x2, M1.2 1 (by omega), M1.2 2 (by omega), gR, gW, kI_mul, kI_sub, b1, b2, show ((R : Int) * W - 1) = ((R * W - 1 : Nat) : Int) by rw [← Int.natCast_mul]; omega]
  refine ⟨rfl, rfl, rfl, rfl, rfl, rfl, rfl, ?_⟩
  have un : drwF tp n (decide P) a g cs = match tkF tp n 0 (R * W - 1) (nxA tp n a) with
    | .error e => .error e
    | .ok q => .ok (q.1, (if decide P = true then upG (upG g 22 ((D ||| 2 ^ q.2 : Nat) : Int)) 23 (q.2 : Nat) else upG g 22 ((D ||| 2 ^ q.2 : Nat) : Int)), cs) := by
    unfold drwF
    rw [gR, gW, gD, Int.toNat_natCast, Int.toNat_natCast, Int.toNat_natCast]
  rw [un]
  cases ht : tkF tp n 0 (R * W - 1) (nxA tp n a) with
  | error e =>
    obtain ⟨x, hx⟩ := M_takes_n S1 (lo := 0) (hi := R * W - 1) (by omega) (by omega) ht
    refine GI.use hx (by omega) (fun h2 e2 => ?_)
    have B := e2.2.1
    rw [kd_88 B.1, if_neg B.nz.2]
    exact ⟨rfl, rfl, ln_of (e1.1.trans e2.1), e2.2⟩
  | ok q =>
    obtain ⟨hx, t1, t2, t3, t4, t5⟩ := M_takes_y S1 (lo := 0) (hi := R * W - 1) (by omega) (by omega) (b := q.1) (v := q.2) ht
    refine GI.use hx (by omega) (fun h2 e2 => ?_)
    have M2 := M1.rd e2.1 e2.2
    have F2 := M2.1.F
    rw [kd_88 F2, M2.1.i11, if_pos (by decide), rv_88_4 F2, kd_92 F2, ln_92 F2, b22, x22, M2.2 22 (by omega), gD, kI_shl1 (by omega), kI_or]
    refine ⟨rfl, rfl, rfl, rfl, rfl, rfl, ?_⟩
    have M3 := M2.st (k := 22) (by omega) ((D ||| 2 ^ q.2 : Nat) : Int)
    have f3 := (ln_of (e1.1.trans e2.1)).trans M3.2
    by_cases z : P
    · rw [if_neg (by rw [dec_b0]; exact fun y => y z)]
      have F3 := M3.1.1.F
      rw [kd_88 F3, rv_88_4 F3, kd_92 F3, ln_92 F3, b23, x23]
      have M4 := M3.1.st (k := 23) (by omega) ((q.2 : Nat) : Int)
      refine ⟨rfl, rfl, rfl, rfl, f3.trans M4.2, law, hl, ?_⟩
      dsimp only
      rw [if_pos (by rw [decide_eq_true_eq]; exact z)]
      exact M4.1
    · rw [if_pos (by rw [dec_b0]; exact z)]
      refine ⟨rfl, f3, law, hl, ?_⟩
      dsimp only
      rw [if_neg (by rw [decide_eq_true_eq]; exact z)]
      exact M3.1
theorem M_readTruth_d {h : AH} (B : MBd h) {d : Nat} {k : Int32} (hd : 7 ≤ d) {K : AH → Prop} : CallV d m_M_readTruth [.ref 88, .int k] h K ↔ K h := by
  refine Ret.V (d := 7) (ret_of (s_M_readTruth_0 ?_)) hd
  rw [kd_88 B.1, M_readBoth_d B (by omega)]
  exact ⟨rfl, M_readTruth_5d B (by omega) ⟨rfl, rfl⟩⟩
theorem FLn_15 (h : AH) (x : Int32) : FLn h (stI h 88 15 x) := (Fr_rfl (fun x k => (x = 88 ∧ (k = 6 ∨ k = 7 ∨ k = 9 ∨ k = 10 ∨ k = 11 ∨ k = 12 ∨ k = 15)) ∨ x = 92) JM h).stI (Or.inl ⟨rfl, by omega⟩) _
theorem ML.law {tp : Nat → Nat} {n law a : Nat} {g : LG} {cs : List Nat} {h : AH} (M : ML tp n law a g cs h) (law' : Nat) : ML tp n law' a g cs (stI h 88 15 (kI law')) := by
  have S := M.1
  have e := FLn_15 h (kI law')
  have i88 : ∀ j, j ≠ 15 → ivA (stI h 88 15 (kI law')) 88 j = ivA h 88 j := fun j hj => by rw [iv_stI, if_neg (by omega)]
  have i92 : ∀ j, ivA (stI h 88 15 (kI law')) 92 j = ivA h 92 j := fun j => by rw [iv_stI, if_neg (by omega)]
  exact ⟨⟨e.fix S.F, S.O.fr e (fun x k z => by omega), S.R.fr e (by omega) (fun k => by omega), S.an, by rw [i88 _ (by omega)]; exact S.i6, by rw [i88 _ (by omega)]; exact S.i7, by rw [i88 _ (by omega)]; exact S.i9, fun z => by rw [i88 _ (by omega)]; exact S.i10 z, by rw [i88 _ (by omega)]; exact S.i11, by rw [iv_stI, if_pos ⟨rfl, rfl⟩], by rw [i92]; exact S.nc, fun j hj => by rw [i92]; exact S.cd j hj⟩, fun j hj => by rw [i92]; exact M.2 j hj⟩
def lawF (tp : Nat → Nat) (n law a : Nat) (g : LG) (cs : List Nat) : LR := if tKd tp n (nxA tp n a) = 31 then (match PP tp n law (7 * n + 7) (if law = 1 then 3 else 9) 0 (nxA tp n (nxA tp n a)) cs with
  | .error e => .error e
  | .ok q => .ok (q.1, upG (upG (upG g (4 + law) 1) (6 + law) (cs.length : Nat)) (8 + law) ((q.2.length : Int) - cs.length), q.2)) else .error (fkF tp n (nxA tp n a) 2, nxA tp n a)
theorem M_readLaw_49d {h : AH} (B : MBd h) {d : Nat} {k j : Int32} {Q : Option Value → AH → Prop} (q : Q none h) : Safe d m_M_readLaw (49, [.ref 88, .int k, .int j], [], h) Q := by
  refine s_M_readLaw_49 ?_
  rw [kd_88 B.1, if_neg B.nz.2]
  exact ⟨rfl, q⟩
theorem M_readLaw_g {tp : Nat → Nat} {n law0 a : Nat} {g : LG} {cs : List Nat} {h : AH} (hn : n ≤ 900) (M : ML tp n law0 a g cs h) {law : Nat} (hl : law ≤ 1) (an : a < n) (le : cs.length ≤ a) : GV 40 m_M_readLaw [.ref 88, .int (kI law)] h (MPl tp n (lawF tp n law a g cs) h) := by
  have S := M.1
  have nb := nxA_b (tp := tp) an
  have b100 : inB (kI 100) 1001 = true := inB_lit (by omega) (by omega) (by omega)
  have x100 : ix (kI 100) = 100 := ix_kI (n := 100) (by omega)
  have em : ∀ j : Int, 0 ≤ j → j ≤ 8 → ix (kI j + kI (law : Int)) = (j + law).toNat ∧ inB (kI j + kI (law : Int)) 1001 = true := fun j j1 j2 => by
    rw [kI_add]
    refine ⟨?_, inB_lit (by omega) (by omega) (by omega)⟩
    rw [show j + (law : Int) = (((j + law).toNat : Nat) : Int) by omega]
    exact ix_kI (by omega)
  refine GVo (s_M_readLaw_0 ?_)
  rw [kd_88 S.F]
  refine ⟨rfl, ?_⟩
  refine GV.use (M_nextS S) (by omega) (fun h1 e1 => ?_)
  have M1 := M.rd e1.1 e1.2
  have S1 := e1.2
  rw [kd_88 S1.F]
  refine ⟨rfl, ?_⟩
  by_cases q : tKd tp n (nxA tp n a) = 31
  · have bn := kd_n (tp := tp) (n := n) (a := nxA tp n a) (by omega)
    have nb2 := nxA_b (tp := tp) bn
    refine GI.use (M_eats_y S1 (k := 31) q) (by omega) (fun h2 e2 => ?_)
    have M2 := M1.rd e2.1 e2.2
    have F2 := M2.1.F
    rw [if_pos (by decide)]
    have M3 := M2.law law
    have f3 := (ln_of (e1.1.trans e2.1)).trans (FLn_15 h2 (kI law))
    have F3 := M3.1.F
    obtain ⟨md, hmd⟩ : ∃ md, md = if law = 1 then 3 else 9 := ⟨_, rfl⟩
    have un : lawF tp n law a g cs = match PP tp n law (7 * n + 7) md 0 (nxA tp n (nxA tp n a)) cs with
      | .error e => .error e
      | .ok q => .ok (q.1, upG (upG (upG g (4 + law) 1) (6 + law) (cs.length : Nat)) (8 + law) ((q.2.length : Int) - cs.length), q.2) := by
      unfold lawF
      rw [if_pos q, ← hmd]
    rw [un]
    have s49 : ∀ h4, MPo tp n law (PP tp n law (7 * n + 7) md 0 (nxA tp n (nxA tp n a)) cs) (stI h2 88 15 (kI law)) h4 → Safe 39 m_M_readLaw (49, [.ref 88, .int (kI law), .int (kI (cs.length : Nat))], [], h4) (fun v h' => Eqv v none ∧ MPl tp n (match PP tp n law (7 * n + 7) md 0 (nxA tp n (nxA tp n a)) cs with
      | .error e => .error e
      | .ok q => .ok (q.1, upG (upG (upG g (4 + law) 1) (6 + law) (cs.length : Nat)) (8 + law) ((q.2.length : Int) - cs.length), q.2)) h h') := fun h4 e4 => by
      cases hr : PP tp n law (7 * n + 7) md 0 (nxA tp n (nxA tp n a)) cs with
      | error e =>
        rw [hr] at e4
        exact M_readLaw_49d e4.2.1 ⟨rfl, f3.trans (ln_of e4.1), e4.2⟩
      | ok p =>
        rw [hr] at e4
        have M4 := M3.rd e4.1 e4.2
        have F4 := M4.1.F
        refine s_M_readLaw_49 ?_
        rw [kd_88 F4, M4.1.i11, if_pos (by decide), rv_88_4 F4, kd_92 F4, ln_92 F4, (em 4 (by omega) (by omega)).1, (em 4 (by omega) (by omega)).2, (em 6 (by omega) (by omega)).1, (em 8 (by omega) (by omega)).1, show ((4 : Int) + law).toNat = 4 + law by omega, show ((6 : Int) + law).toNat = 6 + law by omega, show ((8 : Int) + law).toNat = 8 + law by omega]
        have M5 := M4.st (k := 4 + law) (by omega) 1
        have F5 := M5.1.1.F
        rw [kd_88 F5, rv_88_4 F5, kd_92 F5, ln_92 F5, (em 6 (by omega) (by omega)).2]
        have M6 := M5.1.st (k := 6 + law) (by omega) ((cs.length : Nat) : Int)
        have F6 := M6.1.1.F
        rw [kd_88 F6, rv_88_4 F6, kd_92 F6, ln_92 F6, (em 8 (by omega) (by omega)).2, b100, x100, M6.1.1.nc, kI_sub]
        have M7 := M6.1.st (k := 8 + law) (by omega) ((p.2.length : Int) - cs.length)
        exact ⟨rfl, rfl, rfl, rfl, rfl, rfl, rfl, rfl, rfl, rfl, rfl, rfl, rfl, rfl, f3.trans ((ln_of e4.1).trans (M5.2.trans (M6.2.trans M7.2))), law, by omega, M7.1⟩
    refine s_M_readLaw_18 ?_
    rw [kd_88 F2, rv_88_4 F2, kd_92 F2, ln_92 F2, b100, x100, M2.1.nc]
    refine ⟨rfl, rfl, rfl, rfl, ?_⟩
    have pr := M_parse (tp := tp) hn hl (7 * n + 7)
    by_cases q1 : law = 1
    · rw [if_pos q1] at hmd
      rw [if_neg (by rw [q1]; decide), kd_88 F3]
      refine ⟨rfl, ?_⟩
      have c := pr.2.2.2.1 0 (nxA tp n (nxA tp n a)) cs _ (by omega) M3.1 (by omega) (by omega)
      rw [hmd] at s49 ⊢
      exact GV.use c (by omega) (fun h4 e4 => s49 h4 e4)
    · rw [if_neg q1] at hmd
      rw [if_pos (by rw [Bool.not_eq_true', decide_eq_false_iff_not, kI_inj (by omega) (by omega) (by omega) (by omega)]; omega), kd_88 F3]
      refine ⟨rfl, ?_⟩
      have c := pr.2.2.2.2.2.2.2.2.2 0 (nxA tp n (nxA tp n a)) cs _ (by omega) M3.1 (by omega) (by omega)
      rw [hmd] at s49 ⊢
      exact GV.use c (by omega) (fun h4 e4 => s49 h4 e4)
  · have un : lawF tp n law a g cs = .error (fkF tp n (nxA tp n a) 2, nxA tp n a) := by
      unfold lawF
      rw [if_neg q]
    rw [un]
    refine (M_eats_n S1 (k := 31) (by omega) q (by omega)).mpr ?_
    rw [if_neg (by decide), kd_88 S1.F]
    refine ⟨rfl, ?_⟩
    refine GV.use (M_fails_g S1 (k := 2) (by omega) (by omega)) (by omega) (fun h2 e2 => ?_)
    obtain ⟨e2, B, y1, y2⟩ := e2
    have f3 := FLn_15 h2 (kI law)
    have i88 : ∀ j, j ≠ 15 → ivA (stI h2 88 15 (kI law)) 88 j = ivA h2 88 j := fun j hj => by rw [iv_stI, if_neg (by omega)]
    have F2 := B.1
    obtain ⟨_, w', y3, y4, y5⟩ := B
    have B3 : MBd (stI h2 88 15 (kI law)) := ⟨f3.fix F2, w', by rw [i88 _ (by omega)]; exact y3, y4, y5⟩
    have P : MPl tp n (.error (fkF tp n (nxA tp n a) 2, nxA tp n a)) h (stI h2 88 15 (kI law)) := ⟨(ln_of (e1.1.trans e2)).trans f3, B3, by rw [i88 _ (by omega)]; exact y1, by rw [i88 _ (by omega)]; exact y2⟩
    refine s_M_readLaw_18 ?_
    rw [kd_88 F2, rv_88_4 F2, kd_92 F2, ln_92 F2, b100]
    refine ⟨rfl, rfl, rfl, rfl, ?_⟩
    rw [kd_88 B3.1]
    by_cases q1 : (!decide (kI (law : Int) = kI 1)) = true
    · rw [if_pos q1, M_readTruth_d B3 (by omega)]
      exact ⟨rfl, M_readLaw_49d B3 ⟨rfl, P⟩⟩
    · rw [if_neg q1, M_readSum_d B3 (by omega)]
      exact ⟨rfl, M_readLaw_49d B3 ⟨rfl, P⟩⟩
