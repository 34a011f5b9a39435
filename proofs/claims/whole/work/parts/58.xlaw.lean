/-! the class's Law: joined, value -/
/-- the class's code of a code of the reference -/
def xc (c : Nat) : Nat := if c < 3000 then c else if c = 3000 then 2006 else if c = 3001 then 2007 else if c = 3002 then 2008 else if c = 3003 then 2003 else if c = 3004 then 2004 else if c = 3005 then 2005 else if c = 3006 then 2000 else if c = 3007 then 2002 else 2001
theorem xc_lo {c : Nat} (h : c < 3000) : xc c = c := by unfold xc; rw [if_pos h]
theorem xc_hi {c : Nat} (h : 3000 ≤ c ∧ c ≤ 3008) (h6 : c ≠ 3006) : 2001 ≤ xc c ∧ xc c ≤ 2008 := by
  unfold xc
  rw [if_neg (by omega)]
  have e : c = 3000 ∨ c = 3001 ∨ c = 3002 ∨ c = 3003 ∨ c = 3004 ∨ c = 3005 ∨ c = 3007 ∨ c = 3008 := by omega
  rcases e with rfl | rfl | rfl | rfl | rfl | rfl | rfl | rfl <;> simp
theorem xc_6 : xc 3006 = 2000 := rfl
theorem La_joined_c {d : Nat} (hd : 1 ≤ d) {h : AH} {c : Nat} {u v : Int} (hc : 3000 ≤ c ∧ c ≤ 3008) (h6 : c ≠ 3006) (v1 : -1000000 ≤ v) (v2 : v ≤ 1000000) (u1 : -1000000 ≤ u) (u2 : u ≤ 1000000) (ht : (c = 3007 ∨ c = 3008) → (v = 0 ∨ v = 1) ∧ (u = 0 ∨ u = 1)) {K : Int32 → AH → Prop} : CallI d m_La_joined [.int (kI (xc c)), .int (kI u), .int (kI v)] h K ↔ K (kI (btw c u v)) h := by
  refine Ret.I (d := 1) (ret_of (s_La_joined_0 ?_)) hd
  have fin : ∀ x : Int, -1000000000000 ≤ x → x ≤ 1000000000000 → Safe 0 m_La_joined (107, [unV, unV, unV, .long (kJ x), unV], [], h) (fun w k => w = some (.int (kI (clampM x))) ∧ k = h) := by
    intro x x1 x2
    refine s_La_joined_107 ?_
    simp (disch := omega) only [kJ_lt]
    refine ⟨?_, trivial⟩
    congr 2
    unfold clampM
    by_cases g1 : 1000000 < x
    · rw [if_pos g1, if_neg (by omega : ¬ x < 1000000)]
      rw [if_neg (by rw [kJ_lt (by omega) (by omega) (by omega) (by omega)]; omega)]
      exact kJ_int (by omega) (by omega)
    · rw [if_neg g1]
      have e1 : (if x < 1000000 then kJ x else kJ 1000000) = kJ x := by
        split
        · rfl
        · rw [show x = 1000000 by omega]
      rw [e1]
      have e2 : (kJ x < kJ (-1000000)) ↔ x < -1000000 := kJ_lt (by omega) (by omega) (by omega) (by omega)
      by_cases g2 : x < -1000000
      · rw [if_pos (e2.mpr g2), if_pos g2]
        exact kJ_int (by omega) (by omega)
      · rw [if_neg (fun w => g2 (e2.mp w)), if_neg g2]
        exact kJ_int (by omega) (by omega)
  have mb := mul_b u1 u2 v1 v2
  have e : c = 3000 ∨ c = 3001 ∨ c = 3002 ∨ c = 3003 ∨ c = 3004 ∨ c = 3005 ∨ c = 3007 ∨ c = 3008 := by omega
  rcases e with rfl | rfl | rfl | rfl | rfl | rfl | rfl | rfl
  · rw [show ((xc 3000 : Nat) : Int) = 2006 from rfl]
    simp (disch := omega) only [ix_lit, inB_lit, decide_true, Bool.true_or, Bool.or_true, true_and, and_true, kI_add, kI_sub, kI_mul, tn_add, Int.toNat_natCast, Int.reduceToNat, kI_le, kI_lt, kI_inj, decide_eq_true_eq, Bool.not_eq_true', decide_eq_false_iff_not, not_true_eq_false, not_false_eq_true, Classical.not_not, Bool.false_eq_true, if_true, if_false, z0, bI_k0, bI_k1, isB_b, isB_0, isB_1, kI_long, kd_stI, ln_stI, rv_stI, Int.reduceEq]
    rw [btw_num (by omega), if_pos rfl]
    exact fin _ (by omega) (by omega)
  · rw [show ((xc 3001 : Nat) : Int) = 2007 from rfl]
    simp (disch := omega) only [ix_lit, inB_lit, decide_true, Bool.true_or, Bool.or_true, true_and, and_true, kI_add, kI_sub, kI_mul, tn_add, Int.toNat_natCast, Int.reduceToNat, kI_le, kI_lt, kI_inj, decide_eq_true_eq, Bool.not_eq_true', decide_eq_false_iff_not, not_true_eq_false, not_false_eq_true, Classical.not_not, Bool.false_eq_true, if_true, if_false, z0, bI_k0, bI_k1, isB_b, isB_0, isB_1, kI_long, kd_stI, ln_stI, rv_stI, Int.reduceEq]
    rw [btw_num (by omega), if_neg (by omega), if_pos rfl]
    exact fin _ (by omega) (by omega)
  · rw [show ((xc 3002 : Nat) : Int) = 2008 from rfl]
    simp (disch := omega) only [ix_lit, inB_lit, decide_true, Bool.true_or, Bool.or_true, true_and, and_true, kI_add, kI_sub, kI_mul, tn_add, Int.toNat_natCast, Int.reduceToNat, kI_le, kI_lt, kI_inj, decide_eq_true_eq, Bool.not_eq_true', decide_eq_false_iff_not, not_true_eq_false, not_false_eq_true, Classical.not_not, Bool.false_eq_true, if_true, if_false, z0, bI_k0, bI_k1, isB_b, isB_0, isB_1, kI_long, kd_stI, ln_stI, rv_stI, Int.reduceEq, kJ_mul]
    rw [btw_num (by omega), if_neg (by omega), if_neg (by omega)]
    exact fin _ mb.1 mb.2
  · rw [show ((xc 3003 : Nat) : Int) = 2003 from rfl]
    simp (disch := omega) only [ix_lit, inB_lit, decide_true, Bool.true_or, Bool.or_true, true_and, and_true, kI_add, kI_sub, kI_mul, tn_add, Int.toNat_natCast, Int.reduceToNat, kI_le, kI_lt, kI_inj, decide_eq_true_eq, Bool.not_eq_true', decide_eq_false_iff_not, not_true_eq_false, not_false_eq_true, Classical.not_not, Bool.false_eq_true, if_true, if_false, z0, bI_k0, bI_k1, isB_b, isB_0, isB_1, kI_long, kd_stI, ln_stI, rv_stI, Int.reduceEq]
    show (if ¬ u = v then _ else _)
    have eb : btw 3003 u v = if u = v then 1 else 0 := rfl
    rw [eb]
    by_cases q : u = v
    · rw [if_neg (fun w => w q), if_pos q]
      (all_goals first | exact ⟨rfl, rfl⟩ | exact ⟨rfl, trivial⟩ | rfl | trivial)
    · rw [if_pos q, if_neg q]
      (all_goals first | exact ⟨rfl, rfl⟩ | exact ⟨rfl, trivial⟩ | rfl | trivial)
  · rw [show ((xc 3004 : Nat) : Int) = 2004 from rfl]
    simp (disch := omega) only [ix_lit, inB_lit, decide_true, Bool.true_or, Bool.or_true, true_and, and_true, kI_add, kI_sub, kI_mul, tn_add, Int.toNat_natCast, Int.reduceToNat, kI_le, kI_lt, kI_inj, decide_eq_true_eq, Bool.not_eq_true', decide_eq_false_iff_not, not_true_eq_false, not_false_eq_true, Classical.not_not, Bool.false_eq_true, if_true, if_false, z0, bI_k0, bI_k1, isB_b, isB_0, isB_1, kI_long, kd_stI, ln_stI, rv_stI, Int.reduceEq]
    have eb : btw 3004 u v = if u < v then 1 else 0 := rfl
    rw [eb]
    by_cases q : u < v
    · rw [if_neg (by omega), if_pos q]
      (all_goals first | exact ⟨rfl, rfl⟩ | exact ⟨rfl, trivial⟩ | rfl | trivial)
    · rw [if_pos (by omega), if_neg q]
      (all_goals first | exact ⟨rfl, rfl⟩ | exact ⟨rfl, trivial⟩ | rfl | trivial)
  · rw [show ((xc 3005 : Nat) : Int) = 2005 from rfl]
    simp (disch := omega) only [ix_lit, inB_lit, decide_true, Bool.true_or, Bool.or_true, true_and, and_true, kI_add, kI_sub, kI_mul, tn_add, Int.toNat_natCast, Int.reduceToNat, kI_le, kI_lt, kI_inj, decide_eq_true_eq, Bool.not_eq_true', decide_eq_false_iff_not, not_true_eq_false, not_false_eq_true, Classical.not_not, Bool.false_eq_true, if_true, if_false, z0, bI_k0, bI_k1, isB_b, isB_0, isB_1, kI_long, kd_stI, ln_stI, rv_stI, Int.reduceEq]
    have eb : btw 3005 u v = if v < u then 1 else 0 := rfl
    rw [eb]
    by_cases q : v < u
    · rw [if_neg (by omega), if_pos q]
      (all_goals first | exact ⟨rfl, rfl⟩ | exact ⟨rfl, trivial⟩ | rfl | trivial)
    · rw [if_pos (by omega), if_neg q]
      (all_goals first | exact ⟨rfl, rfl⟩ | exact ⟨rfl, trivial⟩ | rfl | trivial)
  · rw [show ((xc 3007 : Nat) : Int) = 2002 from rfl]
    simp (disch := omega) only [ix_lit, inB_lit, decide_true, Bool.true_or, Bool.or_true, true_and, and_true, kI_add, kI_sub, kI_mul, tn_add, Int.toNat_natCast, Int.reduceToNat, kI_le, kI_lt, kI_inj, decide_eq_true_eq, Bool.not_eq_true', decide_eq_false_iff_not, not_true_eq_false, not_false_eq_true, Classical.not_not, Bool.false_eq_true, if_true, if_false, z0, bI_k0, bI_k1, isB_b, isB_0, isB_1, kI_long, kd_stI, ln_stI, rv_stI, Int.reduceEq]
    have tt := ht (by omega)
    rw [and01 tt.2 tt.1]
    (all_goals first | exact ⟨rfl, rfl⟩ | exact ⟨rfl, trivial⟩ | rfl | trivial)
  · rw [show ((xc 3008 : Nat) : Int) = 2001 from rfl]
    simp (disch := omega) only [ix_lit, inB_lit, decide_true, Bool.true_or, Bool.or_true, true_and, and_true, kI_add, kI_sub, kI_mul, tn_add, Int.toNat_natCast, Int.reduceToNat, kI_le, kI_lt, kI_inj, decide_eq_true_eq, Bool.not_eq_true', decide_eq_false_iff_not, not_true_eq_false, not_false_eq_true, Classical.not_not, Bool.false_eq_true, if_true, if_false, z0, bI_k0, bI_k1, isB_b, isB_0, isB_1, kI_long, kd_stI, ln_stI, rv_stI, Int.reduceEq]
    have tt := ht (by omega)
    rw [or01 tt.2 tt.1]
    (all_goals first | exact ⟨rfl, rfl⟩ | exact ⟨rfl, trivial⟩ | rfl | trivial)
/-- a law of the class at q: its codes, its stack (scratch: G) -/
def XL (T : Nat → Nat) (code : List Nat) (q : Nat) (h : AH) : Prop := (kdA h q = 2) ∧ (kdA h (rvA h q 0) = 20) ∧ (lnA h (rvA h q 0) = code.length) ∧ (kdA h (rvA h q 1) = 20) ∧ (lnA h (rvA h q 1) = 64) ∧ (∀ k, k < code.length → ivA h (rvA h q 0) k = kI (xc (code.getD k 0) : Nat)) ∧ (T (rvA h q 0) = 0) ∧ (T (rvA h q 1) = 1) ∧ (T q = 0) ∧ (1 ≤ q ∧ q ≤ szA h) ∧ (rvA h q 0 ≤ szA h) ∧ (rvA h q 1 ≤ szA h) ∧ (code.length ≤ 900)
theorem XL.k {T : Nat → Nat} {code : List Nat} {q : Nat} {h : AH} (C : XL T code q h) : kdA h q = 2 := C.1
theorem XL.kc {T : Nat → Nat} {code : List Nat} {q : Nat} {h : AH} (C : XL T code q h) : kdA h (rvA h q 0) = 20 := C.2.1
theorem XL.lc {T : Nat → Nat} {code : List Nat} {q : Nat} {h : AH} (C : XL T code q h) : lnA h (rvA h q 0) = code.length := C.2.2.1
theorem XL.ks {T : Nat → Nat} {code : List Nat} {q : Nat} {h : AH} (C : XL T code q h) : kdA h (rvA h q 1) = 20 := C.2.2.2.1
theorem XL.ls {T : Nat → Nat} {code : List Nat} {q : Nat} {h : AH} (C : XL T code q h) : lnA h (rvA h q 1) = 64 := C.2.2.2.2.1
theorem XL.cd {T : Nat → Nat} {code : List Nat} {q : Nat} {h : AH} (C : XL T code q h) : ∀ k, k < code.length → ivA h (rvA h q 0) k = kI (xc (code.getD k 0) : Nat) := C.2.2.2.2.2.1
theorem XL.g0 {T : Nat → Nat} {code : List Nat} {q : Nat} {h : AH} (C : XL T code q h) : T (rvA h q 0) = 0 := C.2.2.2.2.2.2.1
theorem XL.g1 {T : Nat → Nat} {code : List Nat} {q : Nat} {h : AH} (C : XL T code q h) : T (rvA h q 1) = 1 := C.2.2.2.2.2.2.2.1
theorem XL.gq {T : Nat → Nat} {code : List Nat} {q : Nat} {h : AH} (C : XL T code q h) : T q = 0 := C.2.2.2.2.2.2.2.2.1
theorem XL.bq {T : Nat → Nat} {code : List Nat} {q : Nat} {h : AH} (C : XL T code q h) : 1 ≤ q ∧ q ≤ szA h := C.2.2.2.2.2.2.2.2.2.1
theorem XL.b0 {T : Nat → Nat} {code : List Nat} {q : Nat} {h : AH} (C : XL T code q h) : rvA h q 0 ≤ szA h := C.2.2.2.2.2.2.2.2.2.2.1
theorem XL.b1 {T : Nat → Nat} {code : List Nat} {q : Nat} {h : AH} (C : XL T code q h) : rvA h q 1 ≤ szA h := C.2.2.2.2.2.2.2.2.2.2.2.1
theorem XL.len {T : Nat → Nat} {code : List Nat} {q : Nat} {h : AH} (C : XL T code q h) : code.length ≤ 900 := C.2.2.2.2.2.2.2.2.2.2.2.2
theorem XL.fr {T : Nat → Nat} {I J : Nat → Nat → Prop} {code : List Nat} {q : Nat} {h h' : AH} (C : XL T code q h) (e : Fr I J h h') (hi : ∀ k, ¬ I (rvA h q 0) k) : XL T code q h' := by
  unfold XL
  rw [e.1, e.2.1, e.2.2.1, e.2.2.2.1]
  exact ⟨C.k, C.kc, C.lc, C.ks, C.ls, fun k hk => by rw [e.2.2.2.2.2.1 _ _ (hi k)]; exact C.cd k hk, C.g0, C.g1, C.gq, C.bq, C.b0, C.b1, C.len⟩
theorem La_loop {T : Nat → Nat} {code : List Nat} {q fa : Nat} {h0 : AH} (X : XL T code q h0) (kf : kdA h0 fa = 20) (lf : lnA h0 fa = 8) (hfa : fa ≠ rvA h0 q 1) {b : Bool} {w : Nat → Int} (hb : ∀ k, k < 8 → -1000000 ≤ w k ∧ w k ≤ 1000000) {nw : Nat} (hnw : nw ≤ 8) (hu : ∀ c ∈ code, 1000 ≤ c → c < 1008 → c < 1000 + nw) (hW : ∀ k, k < nw → ivA h0 fa k = kI (w k)) :
    ∀ (rest pre : List Nat) (st : List Int) (t : List Bool) (h : AH), code = pre ++ rest → tyR rest t = some [b] → Tyd t st → Stk h (rvA h0 q 1) st → Fr (fun a _ => a = rvA h0 q 1) JM h0 h → st.length ≤ 64 →
    Safe 1 m_La_value (4, [.ref q, .ref fa, .int (kI st.length), .int (kI pre.length), unV], [], h) (fun v h' => v = some (.int (kI ((runC w rest st).headD 0))) ∧ Fr (fun a _ => a = rvA h0 q 1) JM h0 h') := by
  have hg : rvA h0 q 0 ≠ rvA h0 q 1 := fun e => by have h0 := X.g0; have h1 := X.g1; rw [e] at h0; omega
  have hlc := X.len
  intro rest
  induction rest with
  | nil =>
    intro pre st t h hc ht hT hS hF _
    have x := X.fr hF (fun k => hg)
    rw [List.append_nil] at hc
    subst hc
    cases ht
    match st, hT, hS with
    | [v], hT, hS =>
      have hS1 : ivA h (rvA h q 1) 0 = kI v := by rw [hF.2.2.1]; exact hS.1
      refine s_La_value_4 ?_
      simp (disch := omega) only [x.k, x.kc, x.lc, x.ks, x.ls, isA, ix_lit, inB_lit, decide_true, Bool.true_or, Bool.or_true, true_and, and_true, kI_add, kI_sub, kI_mul, tn_add, Int.toNat_natCast, Int.reduceToNat, kI_le, kI_lt, kI_inj, decide_eq_true_eq, Bool.not_eq_true', decide_eq_false_iff_not, not_true_eq_false, not_false_eq_true, Classical.not_not, Bool.false_eq_true, if_true, if_false, z0, bI_k0, bI_k1, isB_b, isB_0, isB_1, kI_long, kd_stI, ln_stI, rv_stI, List.length_singleton, Int.reduceSub, Int.reduceLE, Nat.reduceLeDiff, Bool.and_true, Int.natCast_one, Int.cast_ofNat_Int, Int.le_refl, hS1]
      exact ⟨rfl, hF⟩
    | [], hT, _ => exact hT.elim
    | _ :: _ :: _, hT, _ => exact hT.2.2.2.elim
  | cons c rest ih =>
    intro pre st t h hc ht hT hS hF hlen
    have x := X.fr hF (fun k => hg)
    have er : rvA h q 1 = rvA h0 q 1 := by rw [hF.2.2.1]
    have hlc2 : pre.length < code.length := by rw [hc, List.length_append]; simp
    have hcc : code.getD pre.length 0 = c := by
      rw [hc, List.getD_eq_getElem?_getD, List.getElem?_append_right (by omega)]
      simp
    have l4 : ivA h (rvA h q 0) pre.length = kI (xc c) := by rw [x.cd _ hlc2, hcc]
    have hmem : c ∈ code := by rw [hc]; simp
    unfold tyR at ht
    cases e : ty1 c t with
    | none => rw [e] at ht; cases ht
    | some t' =>
      rw [e] at ht
      dsimp only at ht
      have hk := ty_kind e
      have hT' := Tyd_step hb e hT
      have hpre : code = (pre ++ [c]) ++ rest := by rw [hc]; simp
      have hpl : ((pre ++ [c]).length : Int) = (pre.length : Int) + 1 := by simp
      have tl := Tyd_len hT
      have ihh := fun h' => ih (pre ++ [c]) (lstp w c st) t' h' hpre ht hT'
      rw [hpl] at ihh
      refine s_La_value_4 ?_
      have hS' : Stk h (rvA h q 1) st := by rw [er]; exact hS
      have kf' : kdA h fa = 20 := by rw [hF.1]; exact kf
      have lf' : lnA h fa = 8 := by rw [hF.2.1]; exact lf
      have hP : ∀ (st' : List Int) (z : Int), Stk h (rvA h q 1) st' → Stk (stI h (rvA h q 1) st'.length (kI z)) (rvA h0 q 1) (z :: st') := fun st' z H => by
        have := Stk_push H z
        rw [← er]
        exact this
      have hFs : ∀ k z, Fr (fun a _ => a = rvA h0 q 1) JM h0 (stI h (rvA h q 1) k z) := fun k z => hF.stI er _
      by_cases k1 : c < 1008
      · have hp := ty_push e k1
        rw [xc_lo (by omega)] at l4
        by_cases k2 : c < 1000
        · simp (disch := omega) only [x.k, x.kc, x.lc, x.ks, x.ls, isA, ix_lit, inB_lit, decide_true, Bool.true_or, Bool.or_true, true_and, and_true, kI_add, kI_sub, kI_mul, tn_add, Int.toNat_natCast, Int.reduceToNat, kI_le, kI_lt, kI_inj, decide_eq_true_eq, Bool.not_eq_true', decide_eq_false_iff_not, not_true_eq_false, not_false_eq_true, Classical.not_not, Bool.false_eq_true, if_true, if_false, z0, bI_k0, bI_k1, isB_b, isB_0, isB_1, kI_long, kd_stI, ln_stI, rv_stI, l4, Nat.reduceLeDiff, Bool.and_true]
          rw [if_neg (by omega), if_neg (by omega), if_neg (by omega), if_neg (by omega)]
          refine s_La_value_64 ?_
          simp (disch := omega) only [x.ks, x.ls, ix_lit, inB_lit, decide_true, Bool.true_or, Bool.or_true, true_and, and_true, kI_add, kI_sub, kI_mul, tn_add, Int.toNat_natCast, Int.reduceToNat, kI_le, kI_lt, kI_inj, decide_eq_true_eq, Bool.not_eq_true', decide_eq_false_iff_not, not_true_eq_false, not_false_eq_true, Classical.not_not, Bool.false_eq_true, if_true, if_false, z0, bI_k0, bI_k1, isB_b, isB_0, isB_1, kI_long, kd_stI, ln_stI, rv_stI]
          have es : lstp w c st = (c : Int) :: st := by unfold lstp; rw [if_pos k2]
          rw [es] at ihh
          have := ihh (stI h (rvA h q 1) st.length (kI c)) (hP _ _ hS') (hFs _ _) (by simp; omega)
          rw [show (((c : Int) :: st).length : Int) = (st.length : Int) + 1 by simp] at this
          have es2 : runC w (c :: rest) st = runC w rest ((c : Int) :: st) := by show runC w rest (lstp w c st) = _; rw [es]
          rw [es2]
          exact this
        · have k3 := hu c hmem (by omega) k1
          have hwk : ivA h fa (c - 1000) = kI (w (c - 1000)) := by rw [hF.2.2.2.2.2.1 _ _ hfa]; exact hW (c - 1000) (by omega)
          have ec : ((c : Int) - 1000) = ((c - 1000 : Nat) : Int) := by omega
          simp (disch := omega) only [x.k, x.kc, x.lc, x.ks, x.ls, isA, ix_lit, inB_lit, decide_true, Bool.true_or, Bool.or_true, true_and, and_true, kI_add, kI_sub, kI_mul, tn_add, Int.toNat_natCast, Int.reduceToNat, kI_le, kI_lt, kI_inj, decide_eq_true_eq, Bool.not_eq_true', decide_eq_false_iff_not, not_true_eq_false, not_false_eq_true, Classical.not_not, Bool.false_eq_true, if_true, if_false, z0, bI_k0, bI_k1, isB_b, isB_0, isB_1, kI_long, kd_stI, ln_stI, rv_stI, l4, Nat.reduceLeDiff, Bool.and_true, kf', lf', ec, hwk]
          rw [if_neg (by omega), if_neg (by omega), if_neg (by omega), if_pos (by omega)]
          refine s_La_value_64 ?_
          simp (disch := omega) only [x.ks, x.ls, ix_lit, inB_lit, decide_true, Bool.true_or, Bool.or_true, true_and, and_true, kI_add, kI_sub, kI_mul, tn_add, Int.toNat_natCast, Int.reduceToNat, kI_le, kI_lt, kI_inj, decide_eq_true_eq, Bool.not_eq_true', decide_eq_false_iff_not, not_true_eq_false, not_false_eq_true, Classical.not_not, Bool.false_eq_true, if_true, if_false, z0, bI_k0, bI_k1, isB_b, isB_0, isB_1, kI_long, kd_stI, ln_stI, rv_stI]
          have es : lstp w c st = w (c - 1000) :: st := by unfold lstp; rw [if_neg k2, if_pos (by omega)]
          rw [es] at ihh
          have := ihh (stI h (rvA h q 1) st.length (kI (w (c - 1000)))) (hP _ _ hS') (hFs _ _) (by simp; omega)
          rw [show ((w (c - 1000) :: st).length : Int) = (st.length : Int) + 1 by simp] at this
          have es2 : runC w (c :: rest) st = runC w rest (w (c - 1000) :: st) := by show runC w rest (lstp w c st) = _; rw [es]
          rw [es2]
          exact this
      · by_cases k2 : c = 3006
        · subst k2
          rw [xc_6] at l4
          obtain ⟨v, q', rfl, hv⟩ := Tyd_one e hT
          have hS1 : ivA h (rvA h q 1) q'.length = kI v := hS'.1
          have el : (((v :: q').length : Nat) : Int) - 1 = (q'.length : Int) := by simp
          have el3 : (((v :: q').length : Nat) : Int) = (q'.length : Int) + 1 := by simp
          have hq : q'.length ≤ 63 := by simp at hlen; omega
          simp (disch := omega) only [x.k, x.kc, x.lc, x.ks, x.ls, isA, ix_lit, inB_lit, decide_true, Bool.true_or, Bool.or_true, true_and, and_true, kI_add, kI_sub, kI_mul, tn_add, Int.toNat_natCast, Int.reduceToNat, kI_le, kI_lt, kI_inj, decide_eq_true_eq, Bool.not_eq_true', decide_eq_false_iff_not, not_true_eq_false, not_false_eq_true, Classical.not_not, Bool.false_eq_true, if_true, if_false, z0, bI_k0, bI_k1, isB_b, isB_0, isB_1, kI_long, kd_stI, ln_stI, rv_stI, l4, Nat.reduceLeDiff, Bool.and_true, el, hS1, Int.cast_ofNat_Int, Int.le_refl, Int.reduceLE]
          rw [if_neg (show ¬ ((code.length : Nat) : Int) ≤ (pre.length : Int) by omega), if_neg (show ¬ (((v :: q').length : Nat) : Int) ≤ 0 by rw [el3]; omega)]
          have es : lstp w 3006 (v :: q') = (1 - v) :: q' := by unfold lstp; rw [if_neg (by omega), if_neg (by omega), if_pos rfl]
          rw [es] at ihh
          have := ihh (stI h (rvA h q 1) q'.length (kI (1 - v))) (hP _ _ hS'.2) (hFs _ _) (by simp; omega)
          have es2 : runC w (3006 :: rest) (v :: q') = runC w rest ((1 - v) :: q') := by show runC w rest (lstp w 3006 (v :: q')) = _; rw [es]
          rw [es2]
          exact this
        · obtain ⟨v, u, q', rfl, v1, v2, u1, u2, hvu, c1, c2⟩ := Tyd_two e hT k1 k2
          have hx := xc_hi ⟨c1, c2⟩ k2
          have hS1 : ivA h (rvA h q 1) (q'.length + 1) = kI v := hS'.1
          have hS2 : ivA h (rvA h q 1) q'.length = kI u := hS'.2.1
          have el : (((v :: u :: q').length : Nat) : Int) + -1 = ((q'.length + 1 : Nat) : Int) := by simp; omega
          have el2 : (((q'.length + 1 : Nat)) : Int) - 1 = (q'.length : Int) := by simp
          have el3 : (((v :: u :: q').length : Nat) : Int) = (q'.length : Int) + 2 := by simp; omega
          have hq : q'.length ≤ 62 := by simp at hlen; omega
          simp (disch := omega) only [x.k, x.kc, x.lc, x.ks, x.ls, isA, ix_lit, inB_lit, decide_true, Bool.true_or, Bool.or_true, true_and, and_true, kI_add, kI_sub, kI_mul, tn_add, Int.toNat_natCast, Int.reduceToNat, kI_le, kI_lt, kI_inj, decide_eq_true_eq, Bool.not_eq_true', decide_eq_false_iff_not, not_true_eq_false, not_false_eq_true, Classical.not_not, Bool.false_eq_true, if_true, if_false, z0, bI_k0, bI_k1, isB_b, isB_0, isB_1, kI_long, kd_stI, ln_stI, rv_stI, l4, Nat.reduceLeDiff, Bool.and_true, el, el2, hS1, hS2, La_joined_c]
          rw [if_neg (by omega), if_pos (by omega), if_pos (by omega), if_neg (by omega)]
          have es : lstp w c (v :: u :: q') = btw c u v :: q' := by unfold lstp; rw [if_neg (by omega), if_neg (by omega), if_neg k2]
          rw [es] at ihh
          have := ihh (stI h (rvA h q 1) q'.length (kI (btw c u v))) (hP _ _ hS'.2.2) (hFs _ _) (by simp; omega)
          have es2 : runC w (c :: rest) (v :: u :: q') = runC w rest (btw c u v :: q') := by show runC w rest (lstp w c (v :: u :: q')) = _; rw [es]
          rw [es2]
          exact this
theorem La_value_g {T : Nat → Nat} {code : List Nat} {q fa : Nat} {h : AH} (X : XL T code q h) (kf : kdA h fa = 20) (lf : lnA h fa = 8) (hfa : fa ≠ rvA h q 1) {b : Bool} (hty : tyR code [] = some [b]) {w : Nat → Int} (hb : ∀ k, k < 8 → -1000000 ≤ w k ∧ w k ≤ 1000000) {nw : Nat} (hnw : nw ≤ 8) (hu : ∀ c ∈ code, 1000 ≤ c → c < 1008 → c < 1000 + nw) (hW : ∀ k, k < nw → ivA h fa k = kI (w k)) : GI 2 m_La_value [.ref q, .ref fa] h (kI (evl w code)) (Fr (fun a _ => a = rvA h q 1) JM h) := by
  refine GI_of (s_La_value_0 ?_)
  exact La_loop X kf lf hfa hb hnw hu hW code [] [] [] h rfl hty trivial trivial (Fr_rfl _ _ _) (by simp)
