/-! copies and new laws -/
theorem kd_cp (h : AH) (a b n x : Nat) : kdA (cpA h a b n) x = kdA h x := rfl
theorem ln_cp (h : AH) (a b n x : Nat) : lnA (cpA h a b n) x = lnA h x := rfl
theorem rv_cp (h : AH) (a b n x k : Nat) : rvA (cpA h a b n) x k = rvA h x k := rfl
theorem jv_cp (h : AH) (a b n x k : Nat) : jvA (cpA h a b n) x k = jvA h x k := rfl
theorem iv_cp (h : AH) (a b n x k : Nat) : ivA (cpA h a b n) x k = if x = b then (if k < n then ivA h a k else ivA h b k) else ivA h x k := by
  show up1 h.2.2.1 b (fun j => if j < n then ivA h a j else ivA h b j) x k = _
  unfold up1
  split
  · rename_i q; rfl
  · rfl
theorem FN_cp {A : Nat → Prop} {h : AH} (hz : szA h < 999000) (r t n m : Nat) : FN A h (cpA (nwA h t n) r (szA h + 1) m) := by
  have e := FN_nw (A := A) hz t n
  refine ⟨e.kl, e.sz, e.lt, e.us, fun x o a k => ?_, e.jv, e.rv⟩
  rw [iv_cp, if_neg (old_ne o hz)]
  exact e.iv x o a k
theorem Ar_copyOf_g {r0 L n : Nat} {h : AH} (k : kdA h r0 = 20) (l : lnA h r0 = L) (o : r0 ≤ szA h) (hz : szA h < 999000) (hL : L < 1000000) (hn : n < 1000000) : GR 1 m_Ar_copyOf [.ref r0, .int (kI n)] h (szA h + 1) (fun h' => FN (fun _ => False) h h' ∧ szA h' = szA h + 1 ∧ usA h' = usA h + n ∧ kdA h' (szA h + 1) = 20 ∧ lnA h' (szA h + 1) = n ∧ ∀ k, k < n → k < L → ivA h' (szA h + 1) k = ivA h r0 k) := by
  have ne : r0 ≠ szA h + 1 := by omega
  have old0 : ∀ t m k, ivA (nwA h t m) r0 k = ivA h r0 k := fun t m k => by rw [iv_nw, if_neg ne]
  refine GRo (s_Ar_copyOf_0 ?_)
  rw [k, l]
  refine ⟨rfl, ?_⟩
  by_cases q : n = L
  · subst q
    rw [if_neg (by simp)]
    refine ⟨rfl, by rw [kd_cp, kd_nw, if_pos rfl]; rfl, rfl, FN_cp hz r0 20 n n, rfl, rfl, by rw [kd_cp, kd_nw, if_pos rfl], by rw [ln_cp, ln_nw, if_pos rfl], fun j hj _ => ?_⟩
    rw [iv_cp, if_pos rfl, if_pos hj, old0]
  · rw [if_pos (by rw [Bool.not_eq_true', decide_eq_false_iff_not, kI_inj (by omega) (by omega) (by omega) (by omega)]; omega), kd_nw, if_neg ne, k, kd_nw, if_pos rfl, ln_nw, if_neg ne, l, ln_nw, if_pos rfl, ix_kI (by omega)]
    obtain ⟨m, hm, em⟩ : ∃ m : Nat, (m ≤ n ∧ m ≤ L ∧ ∀ j, j < n → j < L → j < m) ∧ (if kI (n : Int) < kI (L : Int) then kI (n : Int) else kI (L : Int)) = kI (m : Nat) := by
      by_cases q2 : n < L
      · exact ⟨n, ⟨by omega, by omega, fun j h1 _ => h1⟩, by rw [if_pos (by rw [kI_lt (by omega) (by omega) (by omega) (by omega)]; omega)]⟩
      · exact ⟨L, ⟨by omega, by omega, fun j _ h1 => h1⟩, by rw [if_neg (by rw [kI_lt (by omega) (by omega) (by omega) (by omega)]; omega)]⟩
    rw [em, ix_kI (by omega)]
    refine ⟨inB_kI (by omega) (by omega), rfl, rfl, rfl, rfl, rfl, ?_, ?_, ?_, ?_, rfl, rfl, FN_cp hz r0 20 n m, rfl, rfl, by rw [kd_cp, kd_nw, if_pos rfl], by rw [ln_cp, ln_nw, if_pos rfl], fun j h1 h2 => ?_⟩
    · rw [Bool.not_eq_true', decide_eq_false_iff_not, z0, kI_lt (by omega) (by omega) (by omega) (by omega)]; omega
    · rw [decide_eq_true_eq]; exact hm.2.1
    · rw [decide_eq_true_eq]; exact hm.1
    · rw [Bool.not_eq_true', decide_eq_false_iff_not]; exact ne
    · rw [iv_cp, if_pos rfl, if_pos (hm.2.2 j h1 h2), old0]
/-- which words a law looks at, as the class reckons it -/
def usI (f : Nat → Int32) : Nat → Int32
  | 0 => kI 0
  | j + 1 => if f j < kI 1000 then usI f j else if kI 1008 ≤ f j then usI f j else usI f j ||| (kI 1 <<< ((f j - kI 1000) &&& 31))
def usN (cs : List Nat) : Nat → Nat
  | 0 => 0
  | j + 1 => if 1000 ≤ cs.getD j 0 ∧ cs.getD j 0 < 1008 then usN cs j ||| 2 ^ (cs.getD j 0 - 1000) else usN cs j
theorem usN_bit (cs : List Nat) (w : Nat) : ∀ k, (usN cs k).testBit w = true ↔ w < 8 ∧ ∃ j : Nat, j < k ∧ cs.getD j 0 = 1000 + w
  | 0 => by
    constructor
    · intro h
      rw [show usN cs 0 = 0 from rfl, Nat.zero_testBit] at h
      cases h
    · rintro ⟨_, j, hj, _⟩
      omega
  | k + 1 => by
    have ih := usN_bit cs w k
    show (if 1000 ≤ cs.getD k 0 ∧ cs.getD k 0 < 1008 then usN cs k ||| 2 ^ (cs.getD k 0 - 1000) else usN cs k).testBit w = true ↔ _
    have ext : (w < 8 ∧ ∃ j : Nat, j < k + 1 ∧ cs.getD j 0 = 1000 + w) ↔ ((w < 8 ∧ ∃ j : Nat, j < k ∧ cs.getD j 0 = 1000 + w) ∨ (w < 8 ∧ cs.getD k 0 = 1000 + w)) := by
      constructor
      · rintro ⟨h1, j, h2, h3⟩
        by_cases z : j = k
        · exact Or.inr ⟨h1, by rw [← z]; exact h3⟩
        · exact Or.inl ⟨h1, j, by omega, h3⟩
      · rintro (⟨h1, j, h2, h3⟩ | ⟨h1, h3⟩)
        · exact ⟨h1, j, by omega, h3⟩
        · exact ⟨h1, k, by omega, h3⟩
    rw [ext, ← ih]
    by_cases q : 1000 ≤ cs.getD k 0 ∧ cs.getD k 0 < 1008
    · rw [if_pos q, Nat.testBit_or, Bool.or_eq_true, two_bit, decide_eq_true_eq]
      constructor
      · rintro (z | z)
        · exact Or.inl z
        · exact Or.inr (by omega)
      · rintro (z | z)
        · exact Or.inl z
        · exact Or.inr (by omega)
    · rw [if_neg q]
      constructor
      · intro z; exact Or.inl z
      · rintro (z | z)
        · exact z
        · omega
theorem usN_lt (cs : List Nat) : ∀ k, usN cs k < 2 ^ 8
  | 0 => by show 0 < 2 ^ 8; omega
  | k + 1 => by
    have ih := usN_lt cs k
    show (if 1000 ≤ cs.getD k 0 ∧ cs.getD k 0 < 1008 then usN cs k ||| 2 ^ (cs.getD k 0 - 1000) else usN cs k) < 2 ^ 8
    split
    · rename_i q
      exact Nat.or_lt_two_pow ih (Nat.pow_lt_pow_right (by omega) (by omega))
    · exact ih
theorem usI_N {f : Nat → Int32} {cs : List Nat} (B : ∀ c ∈ cs, c < 1008 ∨ (3000 ≤ c ∧ c ≤ 3008)) : ∀ k, k ≤ cs.length → (∀ j, j < k → f j = kI (xc (cs.getD j 0) : Nat)) → usI f k = kI (usN cs k : Nat)
  | 0, _, _ => rfl
  | k + 1, hk, H => by
    have ih := usI_N (f := f) B k (by omega) (fun j hj => H j (by omega))
    have e := H k (by omega)
    have mem : cs.getD k 0 ∈ cs := by
      rw [List.getD_eq_getElem?_getD, List.getElem?_eq_getElem (by omega)]
      exact List.getElem_mem _
    have b := B _ mem
    show (if f k < kI 1000 then usI f k else if kI 1008 ≤ f k then usI f k else usI f k ||| (kI 1 <<< ((f k - kI 1000) &&& 31))) = kI ((if 1000 ≤ cs.getD k 0 ∧ cs.getD k 0 < 1008 then usN cs k ||| 2 ^ (cs.getD k 0 - 1000) else usN cs k : Nat) : Int)
    rw [e, ih]
    rcases b with b | b
    · rw [xc_lo (by omega)]
      by_cases q : 1000 ≤ cs.getD k 0
      · rw [if_neg (by rw [kI_lt (by omega) (by omega) (by omega) (by omega)]; omega), if_neg (by rw [kI_le (by omega) (by omega) (by omega) (by omega)]; omega), if_pos ⟨q, b⟩, kI_sub, show ((cs.getD k 0 : Nat) : Int) - 1000 = ((cs.getD k 0 - 1000 : Nat) : Int) by omega, kI_shl1 (by omega), kI_or]
      · rw [if_pos (by rw [kI_lt (by omega) (by omega) (by omega) (by omega)]; omega), if_neg (by omega)]
    · have hx : 2000 ≤ xc (cs.getD k 0) ∧ xc (cs.getD k 0) ≤ 2008 := by
        by_cases q6 : cs.getD k 0 = 3006
        · rw [q6, xc_6]; omega
        · have := xc_hi b q6; omega
      rw [if_neg (by rw [kI_lt (by omega) (by omega) (by omega) (by omega)]; omega), if_pos (by rw [kI_le (by omega) (by omega) (by omega) (by omega)]; omega), if_neg (by omega)]
theorem La_new_g {q k : Nat} {h : AH} (kq : kdA h q = 2) (q1 : 105 < q) (q2 : q ≤ szA h) (F : Fix h) (hz : szA h < 998000) (k9 : k ≤ 900) : GV 2 m_La_new [.ref q, .ref 41, .int (kI k)] h (fun h' => FN (fun x => x = q) h h' ∧ szA h' = szA h + 2 ∧ usA h' = usA h + 64 + k ∧ rvA h' q 1 = szA h + 1 ∧ rvA h' q 0 = szA h + 2 ∧ kdA h' (szA h + 1) = 20 ∧ lnA h' (szA h + 1) = 64 ∧ kdA h' (szA h + 2) = 20 ∧ lnA h' (szA h + 2) = k ∧ (∀ j, j < k → ivA h' (szA h + 2) j = ivA h 41 j) ∧ ivA h' q 2 = usI (fun j => ivA h 41 j) k) := by
  have s105 := F.2.2.2
  refine GVo (s_La_new_0 ?_)
  have c64 : ix (kI 64) = 64 := rfl
  rw [c64]
  obtain ⟨h1, h1e⟩ : ∃ h1, h1 = stR (nwA h 20 64) q 1 (szA h + 1) := ⟨_, rfl⟩
  rw [← h1e]
  have e1 : FN (fun x => x = q) h h1 := by rw [h1e]; exact (FN_nw (by omega) 20 64).trans (FN_stR rfl)
  have z1 : szA h1 = szA h + 1 := by rw [h1e]; rfl
  have k41 : kdA h1 41 = 20 := by rw [(e1.kl 41 (Or.inl (by omega))).1]; exact kd_41 F
  have l41 : lnA h1 41 = 900 := by rw [(e1.kl 41 (Or.inl (by omega))).2]; exact ln_41 F
  have i41 : ∀ j, ivA h1 41 j = ivA h 41 j := fun j => e1.iv 41 (Or.inl (by omega)) (by omega) j
  have kq0 : kdA (nwA h 20 64) q = 2 := by rw [kd_nw, if_neg (by omega)]; exact kq
  rw [kq0, k41, l41]
  have c1 : (if kI ((900 : Nat) : Int) < kI (k : Int) then kI ((900 : Nat) : Int) else kI (k : Int)) = kI k := by
    rw [if_neg (by rw [kI_lt (by omega) (by omega) (by omega) (by omega)]; omega)]
  rw [c1]
  have c2 : (if kI 0 < kI (k : Int) then kI (k : Int) else kI 0) = kI k := by
    by_cases q : 0 < k
    · rw [if_pos (by rw [kI_lt (by omega) (by omega) (by omega) (by omega)]; omega)]
    · rw [if_neg (by rw [kI_lt (by omega) (by omega) (by omega) (by omega)]; omega)]
      congr 1
      omega
  rw [c2]
  refine ⟨by rw [Bool.not_eq_true', decide_eq_false_iff_not]; omega, rfl, rfl, rfl, ?_⟩
  refine GR.use (Ar_copyOf_g k41 l41 (by omega) (by omega) (by omega) (by omega)) (by omega) (fun h2 e2 => ?_)
  obtain ⟨e2, z2, u2, kd2, ln2, iv2⟩ := e2
  rw [z1] at z2 kd2 ln2 iv2 ⊢
  have e2' := e1.trans (e2.mono (fun x w => w.elim))
  have kq2 : kdA h2 q = 2 := by rw [(e2'.kl q (Or.inl q2)).1]; exact kq
  rw [kq2]
  refine ⟨rfl, ?_⟩
  obtain ⟨h3, h3e⟩ : ∃ h3, h3 = stR h2 q 0 (szA h + 1 + 1) := ⟨_, rfl⟩
  rw [← h3e]
  have e3 : FN (fun x => x = q) h h3 := by rw [h3e]; exact e2'.trans (FN_stR rfl)
  have r0 : rvA h3 q 0 = szA h + 2 := by rw [h3e, rv_stR, if_pos ⟨rfl, rfl⟩]
  have r1 : rvA h3 q 1 = szA h + 1 := by
    rw [h3e, rv_stR, if_neg (by omega), e2.rv q (Or.inl (by omega)) (fun w => w) 1, h1e, rv_stR, if_pos ⟨rfl, rfl⟩]
  have kd3 : kdA h3 (szA h + 2) = 20 := by rw [h3e, kd_stR]; exact kd2
  have ln3 : lnA h3 (szA h + 2) = k := by rw [h3e, ln_stR]; exact ln2
  have iv3 : ∀ j, j < k → ivA h3 (szA h + 2) j = ivA h 41 j := fun j hj => by rw [h3e, iv_stR, iv2 j hj (by omega), i41]
  have kq3 : kdA h3 q = 2 := by rw [h3e, kd_stR]; exact kq2
  have kd1 : kdA h3 (szA h + 1) = 20 ∧ lnA h3 (szA h + 1) = 64 := by
    rw [h3e, kd_stR, ln_stR, (e2.kl (szA h + 1) (Or.inl (by omega))).1, (e2.kl (szA h + 1) (Or.inl (by omega))).2, h1e, kd_stR, ln_stR, kd_nw, if_pos rfl, ln_nw, if_pos rfl]
    exact ⟨rfl, rfl⟩
  have us3 : usA h3 = usA h + 64 + k := by
    rw [h3e]
    show usA h2 = _
    rw [u2, h1e]
    rfl
  have sz3 : szA h3 = szA h + 2 := by rw [h3e]; exact z2
  have gen : ∀ Q : Option Value → AH → Prop, Q none (stI h3 q 2 (usI (fun j => ivA h 41 j) k)) → ∀ j, j ≤ k → Safe 1 m_La_new (35, [.ref q, unV, unV, .int (usI (fun j => ivA h 41 j) j), .int (kI j)], [], h3) Q := by
    intro Q hQ
    refine down_ind k ?_ ?_
    · refine s_La_new_35 ?_
      rw [r0, kq3, kd3, ln3, if_pos (by rw [decide_eq_true_eq, kI_le (by omega) (by omega) (by omega) (by omega)]; omega)]
      exact ⟨rfl, rfl, rfl, hQ⟩
    · intro j hj ih
      refine s_La_new_35 ?_
      rw [r0, kq3, kd3, ln3, if_neg (by rw [decide_eq_true_eq, kI_le (by omega) (by omega) (by omega) (by omega)]; omega), ix_kI (by omega), iv3 j hj, kI_add]
      refine ⟨rfl, rfl, rfl, rfl, inB_kI (by omega) (by omega), ?_⟩
      have un : usI (fun j => ivA h 41 j) (j + 1) = (if ivA h 41 j < kI 1000 then usI (fun j => ivA h 41 j) j else if kI 1008 ≤ ivA h 41 j then usI (fun j => ivA h 41 j) j else usI (fun j => ivA h 41 j) j ||| (kI 1 <<< ((ivA h 41 j - kI 1000) &&& 31))) := rfl
      by_cases w1 : ivA h 41 j < kI 1000
      · rw [if_pos (by rw [decide_eq_true_eq]; exact w1)]
        rw [un, if_pos w1] at ih
        exact ih
      · rw [if_neg (by rw [decide_eq_true_eq]; exact w1)]
        refine ⟨rfl, rfl, inB_kI (by omega) (by omega), ?_⟩
        by_cases w2 : kI 1008 ≤ ivA h 41 j
        · rw [if_pos (by rw [decide_eq_true_eq]; exact w2)]
          rw [un, if_neg w1, if_pos w2] at ih
          exact ih
        · rw [if_neg (by rw [decide_eq_true_eq]; exact w2)]
          rw [un, if_neg w1, if_neg w2] at ih
          exact ⟨rfl, rfl, inB_kI (by omega) (by omega), ih⟩
  refine gen _ ?_ 0 (by omega)
  · refine ⟨rfl, e3.trans (Fr.fn (F1_st h3 q 2 _) (fun a j w => w.1) (fun _ _ w => w.elim)), sz3, us3, r1, r0, kd1.1, kd1.2, kd3, ln3, fun j hj => ?_, ?_⟩
    · rw [iv_stI, if_neg (by omega)]
      exact iv3 j hj
    · rw [iv_stI, if_pos ⟨rfl, rfl⟩]
/-- a law as it lies behind its making -/
def XLq (code : List Nat) (q : Nat) (h : AH) : Prop := (kdA h q = 2) ∧ (rvA h q 0 = q + 2) ∧ (rvA h q 1 = q + 1) ∧ (kdA h (q + 1) = 20 ∧ lnA h (q + 1) = 64) ∧ (kdA h (q + 2) = 20 ∧ lnA h (q + 2) = code.length) ∧ (∀ j, j < code.length → ivA h (q + 2) j = kI (xc (code.getD j 0) : Nat)) ∧ (ivA h q 2 = kI (usN code code.length : Nat)) ∧ (code.length ≤ 900) ∧ (105 < q ∧ q + 2 ≤ szA h)
theorem XLq.k {code : List Nat} {q : Nat} {h : AH} (C : XLq code q h) : kdA h q = 2 := C.1
theorem XLq.r0 {code : List Nat} {q : Nat} {h : AH} (C : XLq code q h) : rvA h q 0 = q + 2 := C.2.1
theorem XLq.r1 {code : List Nat} {q : Nat} {h : AH} (C : XLq code q h) : rvA h q 1 = q + 1 := C.2.2.1
theorem XLq.k1 {code : List Nat} {q : Nat} {h : AH} (C : XLq code q h) : kdA h (q + 1) = 20 ∧ lnA h (q + 1) = 64 := C.2.2.2.1
theorem XLq.k2 {code : List Nat} {q : Nat} {h : AH} (C : XLq code q h) : kdA h (q + 2) = 20 ∧ lnA h (q + 2) = code.length := C.2.2.2.2.1
theorem XLq.cd {code : List Nat} {q : Nat} {h : AH} (C : XLq code q h) : ∀ j, j < code.length → ivA h (q + 2) j = kI (xc (code.getD j 0) : Nat) := C.2.2.2.2.2.1
theorem XLq.us {code : List Nat} {q : Nat} {h : AH} (C : XLq code q h) : ivA h q 2 = kI (usN code code.length : Nat) := C.2.2.2.2.2.2.1
theorem XLq.le {code : List Nat} {q : Nat} {h : AH} (C : XLq code q h) : code.length ≤ 900 := C.2.2.2.2.2.2.2.1
theorem XLq.b {code : List Nat} {q : Nat} {h : AH} (C : XLq code q h) : 105 < q ∧ q + 2 ≤ szA h := C.2.2.2.2.2.2.2.2
theorem XLq.fn {A : Nat → Prop} {code : List Nat} {q : Nat} {h h' : AH} (X : XLq code q h) (e : FN A h h') (n : ∀ x, q ≤ x → x ≤ q + 2 → ¬ A x) : XLq code q h' := by
  have b := X.b
  have s := e.sz
  have o : ∀ x, x ≤ q + 2 → old h x := fun x hx => Or.inl (by omega)
  have n0 := n q (by omega) (by omega)
  have n2 := n (q + 2) (by omega) (by omega)
  refine ⟨by rw [(e.kl q (o _ (by omega))).1]; exact X.k, by rw [e.rv q (o _ (by omega)) n0]; exact X.r0, by rw [e.rv q (o _ (by omega)) n0]; exact X.r1, by rw [(e.kl (q + 1) (o _ (by omega))).1, (e.kl (q + 1) (o _ (by omega))).2]; exact X.k1, by rw [(e.kl (q + 2) (o _ (by omega))).1, (e.kl (q + 2) (o _ (by omega))).2]; exact X.k2, fun j hj => by rw [e.iv (q + 2) (o _ (by omega)) n2]; exact X.cd j hj, by rw [e.iv q (o _ (by omega)) n0]; exact X.us, X.le, b.1, by omega⟩
/-! the reader's state where new cells are made -/
def A9 (x : Nat) : Prop := 105 < x ∧ x < 1000000
theorem OX.fn {A : Nat → Prop} {h h' : AH} (O : OX h) (e : FN A h h') (n : ∀ x, A x → x < 1000000) : OX h' := by
  have o : ∀ x, 1000000 ≤ x → old h x := fun x hx => Or.inr hx
  have na : ∀ x, 1000000 ≤ x → ¬ A x := fun x hx w => by have := n x w; omega
  refine ⟨by rw [e.iv _ (o _ (by omega)) (na _ (by omega))]; exact O.1, fun j hj => ?_⟩
  have w := O.2 j hj
  rw [(e.kl _ (o (1000001 + j) (by omega))).1, e.rv _ (o (1000001 + j) (by omega)) (na _ (by omega)), e.iv _ (o (1000001 + j) (by omega)) (na _ (by omega)), (e.kl _ (o (1000005 + j) (by omega))).1, (e.kl _ (o (1000005 + j) (by omega))).2]
  exact ⟨w.1, w.2.1, w.2.2.1, w.2.2.2.1, w.2.2.2.2.1, fun k hk => by rw [e.iv _ (o (1000005 + j) (by omega)) (na _ (by omega))]; exact w.2.2.2.2.2 k hk⟩
theorem Fix.f9 {A : Nat → Prop} {h h' : AH} (F : Fix h) (e : FN A h h') (n : ∀ x, A x → A9 x) : Fix h' := F.fn e (fun q hq w => by have := n _ w; have := tab_le.2.2 q hq; unfold A9 at *; omega)
theorem iv9 {A : Nat → Prop} {h h' : AH} (F : Fix h) (e : FN A h h') (n : ∀ x, A x → A9 x) {x : Nat} (hx : x ≤ 105) (k : Nat) : ivA h' x k = ivA h x k := e.iv x (oldF F hx) (fun w => by have := n _ w; unfold A9 at this; omega) k
theorem XR.f9 {tp : Nat → Nat} {n : Nat} {A : Nat → Prop} {h h' : AH} (R : XR tp n h) (e : FN A h h') (m : ∀ x, A x → A9 x) : XR tp n h' := ⟨R.F.f9 e m, R.O.fn e (fun x w => (m x w).2), R.le, fun k hk => by rw [iv9 R.F e m (by omega)]; exact R.v k hk, R.b⟩
theorem RdL.f9 {tp : Nat → Nat} {n a : Nat} {A : Nat → Prop} {h h' : AH} (S : RdL tp n a h) (e : FN A h h') (m : ∀ x, A x → A9 x) : RdL tp n a h' := by
  have i : ∀ x k, x ≤ 105 → ivA h' x k = ivA h x k := fun x k hx => iv9 S.R.F e m hx k
  obtain ⟨mm, j, hj, B, ea, e3⟩ := S.K.x
  refine ⟨S.R.f9 e m, ⟨by rw [i _ _ (by omega)]; exact S.K.c, by rw [i _ _ (by omega)]; exact S.K.p, mm, j, hj, ⟨B.m9, by rw [i _ _ (by omega)]; exact B.i2, B.en, B.lt, fun k hk => by rw [i _ _ (by omega), i _ _ (by omega)]; exact B.ar k hk⟩, ea, by rw [i _ _ (by omega)]; exact e3⟩, S.an, by rw [i _ _ (by omega)]; exact S.f, by rw [i _ _ (by omega)]; exact S.p, by rw [i _ _ (by omega)]; exact S.z⟩
theorem RdB.f9 {tp : Nat → Nat} {n : Nat} {r : Nat × Nat} {A : Nat → Prop} {h h' : AH} (S : RdB tp n r h) (e : FN A h h') (m : ∀ x, A x → A9 x) : RdB tp n r h' := by
  have i : ∀ x k, x ≤ 105 → ivA h' x k = ivA h x k := fun x k hx => iv9 S.R.F e m hx k
  obtain ⟨mm, j, h1, h2, h3, h4⟩ := S.W
  exact ⟨S.R.f9 e m, ⟨mm, j, h1, h2, by rw [i _ _ (by omega)]; exact h3, by rw [i _ _ (by omega)]; exact h4⟩, S.r1, by rw [i _ _ (by omega)]; exact S.f, by rw [i _ _ (by omega)]; exact S.p, by rw [i _ _ (by omega)]; exact S.z⟩
theorem XG.f9 {g : LG} {A : Nat → Prop} {h h' : AH} (G : XG g h) (F : Fix h) (e : FN A h h') (m : ∀ x, A x → A9 x) : XG g h' := by
  have i : ∀ x k, x ≤ 105 → ivA h' x k = ivA h x k := fun x k hx => iv9 F e m hx k
  obtain ⟨v, X⟩ := G.st
  exact ⟨by rw [i _ _ (by omega)]; exact G.r, by rw [i _ _ (by omega)]; exact G.w, by rw [i _ _ (by omega)]; exact G.hh, by rw [i _ _ (by omega)]; exact G.ln, fun k hk => by rw [i _ _ (by omega)]; exact G.kd k hk, v, by rw [i _ _ (by omega)]; exact X.i0, by rw [i _ _ (by omega)]; exact X.i1, by rw [i _ _ (by omega)]; exact X.i2, by rw [i _ _ (by omega)]; exact X.i3, fun k hk => by rw [i _ _ (by omega)]; exact X.b k hk⟩
