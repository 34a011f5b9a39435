/-! the class's Sheet. T tags the cells: 0 what a sheet is made of, 1 its scratch, 2 the rest -/
def lx (l : Nat) : Int := if l = 12 then -1 else l
def nbF (s : ST) (c : Nat) : Nat := bitsB (fun k => farF s c k == 1) (sN s)
def usesF (s : ST) (w : Nat) : Bool := (sM s).contains (1000 + w)
def XS (T : Nat → Nat) (s : ST) (p : Nat) (h : AH) : Prop := (WFS s) ∧ (kdA h p = 8) ∧ (ivA h p 0 = kI (sR s)) ∧ (ivA h p 1 = kI (sW s)) ∧ (ivA h p 2 = kI (sN s)) ∧ (ivA h p 3 = kI (2 ^ sN s - 1 : Nat)) ∧ (ivA h p 4 = kI (sH s)) ∧ (ivA h p 5 = kI (sL s)) ∧ (ivA h p 6 = bI32 (usesF s 2 = true)) ∧ (ivA h p 7 = bI32 (usesF s 3 = true)) ∧ (ivA h p 8 = bI32 (usesF s 6 = true ∨ usesF s 7 = true)) ∧ (kdA h (rvA h p 9) = 20) ∧ (lnA h (rvA h p 9) = sN s) ∧ (∀ k, k < sN s → ivA h (rvA h p 9) k = kI (sK s k)) ∧ (kdA h (rvA h p 10) = 20) ∧ (lnA h (rvA h p 10) = sN s) ∧ (∀ k, k < sN s → ivA h (rvA h p 10) k = kI (nbF s k : Nat)) ∧ (sM s = [] → rvA h p 11 = 0) ∧ (sM s ≠ [] → XL T (sM s) (rvA h p 11) h ∧ rvA h p 13 ≠ rvA h (rvA h p 11) 1) ∧ (sO s = [] → rvA h p 12 = 0) ∧ (sO s ≠ [] → XL T (sO s) (rvA h p 12) h ∧ rvA h p 13 ≠ rvA h (rvA h p 12) 1) ∧ (kdA h (rvA h p 13) = 20) ∧ (lnA h (rvA h p 13) = 8) ∧ (T p = 0) ∧ (T (rvA h p 9) = 0) ∧ (T (rvA h p 10) = 0) ∧ (T (rvA h p 13) = 1) ∧ (1 ≤ p ∧ p ≤ szA h) ∧ (rvA h p 9 ≤ szA h) ∧ (rvA h p 10 ≤ szA h) ∧ (rvA h p 13 ≤ szA h)
theorem XS.wf {T : Nat → Nat} {s : ST} {p : Nat} {h : AH} (C : XS T s p h) : WFS s := C.1
theorem XS.k {T : Nat → Nat} {s : ST} {p : Nat} {h : AH} (C : XS T s p h) : kdA h p = 8 := C.2.1
theorem XS.i0 {T : Nat → Nat} {s : ST} {p : Nat} {h : AH} (C : XS T s p h) : ivA h p 0 = kI (sR s) := C.2.2.1
theorem XS.i1 {T : Nat → Nat} {s : ST} {p : Nat} {h : AH} (C : XS T s p h) : ivA h p 1 = kI (sW s) := C.2.2.2.1
theorem XS.i2 {T : Nat → Nat} {s : ST} {p : Nat} {h : AH} (C : XS T s p h) : ivA h p 2 = kI (sN s) := C.2.2.2.2.1
theorem XS.i3 {T : Nat → Nat} {s : ST} {p : Nat} {h : AH} (C : XS T s p h) : ivA h p 3 = kI (2 ^ sN s - 1 : Nat) := C.2.2.2.2.2.1
theorem XS.i4 {T : Nat → Nat} {s : ST} {p : Nat} {h : AH} (C : XS T s p h) : ivA h p 4 = kI (sH s) := C.2.2.2.2.2.2.1
theorem XS.i5 {T : Nat → Nat} {s : ST} {p : Nat} {h : AH} (C : XS T s p h) : ivA h p 5 = kI (sL s) := C.2.2.2.2.2.2.2.1
theorem XS.i6 {T : Nat → Nat} {s : ST} {p : Nat} {h : AH} (C : XS T s p h) : ivA h p 6 = bI32 (usesF s 2 = true) := C.2.2.2.2.2.2.2.2.1
theorem XS.i7 {T : Nat → Nat} {s : ST} {p : Nat} {h : AH} (C : XS T s p h) : ivA h p 7 = bI32 (usesF s 3 = true) := C.2.2.2.2.2.2.2.2.2.1
theorem XS.i8 {T : Nat → Nat} {s : ST} {p : Nat} {h : AH} (C : XS T s p h) : ivA h p 8 = bI32 (usesF s 6 = true ∨ usesF s 7 = true) := C.2.2.2.2.2.2.2.2.2.2.1
theorem XS.k9 {T : Nat → Nat} {s : ST} {p : Nat} {h : AH} (C : XS T s p h) : kdA h (rvA h p 9) = 20 := C.2.2.2.2.2.2.2.2.2.2.2.1
theorem XS.l9 {T : Nat → Nat} {s : ST} {p : Nat} {h : AH} (C : XS T s p h) : lnA h (rvA h p 9) = sN s := C.2.2.2.2.2.2.2.2.2.2.2.2.1
theorem XS.c9 {T : Nat → Nat} {s : ST} {p : Nat} {h : AH} (C : XS T s p h) : ∀ k, k < sN s → ivA h (rvA h p 9) k = kI (sK s k) := C.2.2.2.2.2.2.2.2.2.2.2.2.2.1
theorem XS.k10 {T : Nat → Nat} {s : ST} {p : Nat} {h : AH} (C : XS T s p h) : kdA h (rvA h p 10) = 20 := C.2.2.2.2.2.2.2.2.2.2.2.2.2.2.1
theorem XS.l10 {T : Nat → Nat} {s : ST} {p : Nat} {h : AH} (C : XS T s p h) : lnA h (rvA h p 10) = sN s := C.2.2.2.2.2.2.2.2.2.2.2.2.2.2.2.1
theorem XS.c10 {T : Nat → Nat} {s : ST} {p : Nat} {h : AH} (C : XS T s p h) : ∀ k, k < sN s → ivA h (rvA h p 10) k = kI (nbF s k : Nat) := C.2.2.2.2.2.2.2.2.2.2.2.2.2.2.2.2.1
theorem XS.m0 {T : Nat → Nat} {s : ST} {p : Nat} {h : AH} (C : XS T s p h) : sM s = [] → rvA h p 11 = 0 := C.2.2.2.2.2.2.2.2.2.2.2.2.2.2.2.2.2.1
theorem XS.m1 {T : Nat → Nat} {s : ST} {p : Nat} {h : AH} (C : XS T s p h) : sM s ≠ [] → XL T (sM s) (rvA h p 11) h ∧ rvA h p 13 ≠ rvA h (rvA h p 11) 1 := C.2.2.2.2.2.2.2.2.2.2.2.2.2.2.2.2.2.2.1
theorem XS.o0 {T : Nat → Nat} {s : ST} {p : Nat} {h : AH} (C : XS T s p h) : sO s = [] → rvA h p 12 = 0 := C.2.2.2.2.2.2.2.2.2.2.2.2.2.2.2.2.2.2.2.1
theorem XS.o1 {T : Nat → Nat} {s : ST} {p : Nat} {h : AH} (C : XS T s p h) : sO s ≠ [] → XL T (sO s) (rvA h p 12) h ∧ rvA h p 13 ≠ rvA h (rvA h p 12) 1 := C.2.2.2.2.2.2.2.2.2.2.2.2.2.2.2.2.2.2.2.2.1
theorem XS.k13 {T : Nat → Nat} {s : ST} {p : Nat} {h : AH} (C : XS T s p h) : kdA h (rvA h p 13) = 20 := C.2.2.2.2.2.2.2.2.2.2.2.2.2.2.2.2.2.2.2.2.2.1
theorem XS.l13 {T : Nat → Nat} {s : ST} {p : Nat} {h : AH} (C : XS T s p h) : lnA h (rvA h p 13) = 8 := C.2.2.2.2.2.2.2.2.2.2.2.2.2.2.2.2.2.2.2.2.2.2.1
theorem XS.gp {T : Nat → Nat} {s : ST} {p : Nat} {h : AH} (C : XS T s p h) : T p = 0 := C.2.2.2.2.2.2.2.2.2.2.2.2.2.2.2.2.2.2.2.2.2.2.2.1
theorem XS.g9 {T : Nat → Nat} {s : ST} {p : Nat} {h : AH} (C : XS T s p h) : T (rvA h p 9) = 0 := C.2.2.2.2.2.2.2.2.2.2.2.2.2.2.2.2.2.2.2.2.2.2.2.2.1
theorem XS.g10 {T : Nat → Nat} {s : ST} {p : Nat} {h : AH} (C : XS T s p h) : T (rvA h p 10) = 0 := C.2.2.2.2.2.2.2.2.2.2.2.2.2.2.2.2.2.2.2.2.2.2.2.2.2.1
theorem XS.g13 {T : Nat → Nat} {s : ST} {p : Nat} {h : AH} (C : XS T s p h) : T (rvA h p 13) = 1 := C.2.2.2.2.2.2.2.2.2.2.2.2.2.2.2.2.2.2.2.2.2.2.2.2.2.2.1
theorem XS.bp {T : Nat → Nat} {s : ST} {p : Nat} {h : AH} (C : XS T s p h) : 1 ≤ p ∧ p ≤ szA h := C.2.2.2.2.2.2.2.2.2.2.2.2.2.2.2.2.2.2.2.2.2.2.2.2.2.2.2.1
theorem XS.b9 {T : Nat → Nat} {s : ST} {p : Nat} {h : AH} (C : XS T s p h) : rvA h p 9 ≤ szA h := C.2.2.2.2.2.2.2.2.2.2.2.2.2.2.2.2.2.2.2.2.2.2.2.2.2.2.2.2.1
theorem XS.b10 {T : Nat → Nat} {s : ST} {p : Nat} {h : AH} (C : XS T s p h) : rvA h p 10 ≤ szA h := C.2.2.2.2.2.2.2.2.2.2.2.2.2.2.2.2.2.2.2.2.2.2.2.2.2.2.2.2.2.1
theorem XS.b13 {T : Nat → Nat} {s : ST} {p : Nat} {h : AH} (C : XS T s p h) : rvA h p 13 ≤ szA h := C.2.2.2.2.2.2.2.2.2.2.2.2.2.2.2.2.2.2.2.2.2.2.2.2.2.2.2.2.2.2
theorem XS.fr {T : Nat → Nat} {I J : Nat → Nat → Prop} {s : ST} {p : Nat} {h h' : AH} (C : XS T s p h) (e : Fr I J h h') (hi : ∀ a k, I a k → T a ≠ 0) : XS T s p h' := by
  have n0 : ∀ a, T a = 0 → ∀ k, ivA h' a k = ivA h a k := fun a ha k => e.2.2.2.2.2.1 a k (fun w => hi a k w ha)
  unfold XS
  rw [e.1, e.2.1, e.2.2.1, e.2.2.2.1]
  simp only [n0 p C.gp, n0 _ C.g9, n0 _ C.g10]
  exact ⟨C.wf, C.k, C.i0, C.i1, C.i2, C.i3, C.i4, C.i5, C.i6, C.i7, C.i8, C.k9, C.l9, C.c9, C.k10, C.l10, C.c10, C.m0, fun q => ⟨(C.m1 q).1.fr e (fun k w => hi _ k w (C.m1 q).1.g0), (C.m1 q).2⟩, C.o0, fun q => ⟨(C.o1 q).1.fr e (fun k w => hi _ k w (C.o1 q).1.g0), (C.o1 q).2⟩, C.k13, C.l13, C.gp, C.g9, C.g10, C.g13, C.bp, C.b9, C.b10, C.b13⟩
abbrev FG (T : Nat → Nat) (h h' : AH) : Prop := Fr (fun a _ => T a = 1) JM h h'
theorem FG_rfl (T : Nat → Nat) (h : AH) : FG T h h := Fr_rfl _ _ _
theorem FG.st {T : Nat → Nat} {h h1 : AH} (e : FG T h h1) {a : Nat} (q : T a = 1) (k : Nat) (x : Int32) : FG T h (stI h1 a k x) := Fr.stI (I := fun a _ => T a = 1) e q x
theorem XS.fg {T : Nat → Nat} {s : ST} {p : Nat} {h h' : AH} (C : XS T s p h) (e : FG T h h') : XS T s p h' := C.fr e (fun a _ w => by omega)
theorem Sh_hasCell_c {T : Nat → Nat} {s : ST} {p d : Nat} {h : AH} (C : XS T s p h) (hd : 1 ≤ d) {c : Int} (h1 : -2147483648 ≤ c) (h2 : c ≤ 2147483647) {K : Int32 → AH → Prop} : CallI d m_Sh_hasCell [.ref p, .int (kI c)] h K ↔ K (bI32 (0 ≤ c ∧ c < sN s)) h := by
  refine Ret.I (d := 1) (ret_of (s_Sh_hasCell_0 ?_)) hd
  have n2 := C.wf.n12
  simp (disch := omega) only [C.k, C.i2, ix_lit, inB_lit, decide_true, Bool.true_or, Bool.or_true, true_and, and_true, kI_add, kI_sub, kI_mul, tn_add, Int.toNat_natCast, Int.reduceToNat, kI_le, kI_lt, kI_inj, decide_eq_true_eq, Bool.not_eq_true', decide_eq_false_iff_not, not_true_eq_false, not_false_eq_true, Classical.not_not, Bool.false_eq_true, if_true, if_false, z0, bI_k0, bI_k1, isB_b, isB_0, isB_1, kI_long, kd_stI, ln_stI, rv_stI]
  unfold bI32
  by_cases q1 : c < 0
  · rw [if_pos q1, if_neg (by omega)]; all_goals simp
  · rw [if_neg q1]
    by_cases q2 : (sN s : Int) ≤ c
    · rw [if_pos q2, if_neg (by omega)]; all_goals simp
    · rw [if_neg q2, if_pos (by omega)]; all_goals simp
theorem Sh_hasHand_c {T : Nat → Nat} {s : ST} {p d : Nat} {h : AH} (C : XS T s p h) (hd : 1 ≤ d) {c : Int} (h1 : -2147483648 ≤ c) (h2 : c ≤ 2147483647) {K : Int32 → AH → Prop} : CallI d m_Sh_hasHand [.ref p, .int (kI c)] h K ↔ K (bI32 (0 ≤ c ∧ c < sH s)) h := by
  refine Ret.I (d := 1) (ret_of (s_Sh_hasHand_0 ?_)) hd
  have n2 := C.wf.2.2.2.2.2.1
  simp (disch := omega) only [C.k, C.i4, ix_lit, inB_lit, decide_true, Bool.true_or, Bool.or_true, true_and, and_true, kI_add, kI_sub, kI_mul, tn_add, Int.toNat_natCast, Int.reduceToNat, kI_le, kI_lt, kI_inj, decide_eq_true_eq, Bool.not_eq_true', decide_eq_false_iff_not, not_true_eq_false, not_false_eq_true, Classical.not_not, Bool.false_eq_true, if_true, if_false, z0, bI_k0, bI_k1, isB_b, isB_0, isB_1, kI_long, kd_stI, ln_stI, rv_stI]
  unfold bI32
  by_cases q1 : c < 0
  · rw [if_pos q1, if_neg (by omega)]; all_goals simp
  · rw [if_neg q1]
    by_cases q2 : (sH s : Int) ≤ c
    · rw [if_pos q2, if_neg (by omega)]; all_goals simp
    · rw [if_neg q2, if_pos (by omega)]; all_goals simp
theorem Sh_kindOf_c {T : Nat → Nat} {s : ST} {p d : Nat} {h : AH} (C : XS T s p h) (hd : 1 ≤ d) {c : Nat} (hc : c < sN s) {K : Int32 → AH → Prop} : CallI d m_Sh_kindOf [.ref p, .int (kI c)] h K ↔ K (kI (sK s c)) h := by
  refine Ret.I (d := 1) (ret_of (s_Sh_kindOf_0 ?_)) hd
  have n2 := C.wf.n12
  simp (disch := omega) only [C.k, C.k9, C.l9, C.c9, isA, ix_lit, inB_lit, decide_true, Bool.true_or, Bool.or_true, true_and, and_true, kI_add, kI_sub, kI_mul, tn_add, Int.toNat_natCast, Int.reduceToNat, kI_le, kI_lt, kI_inj, decide_eq_true_eq, Bool.not_eq_true', decide_eq_false_iff_not, not_true_eq_false, not_false_eq_true, Classical.not_not, Bool.false_eq_true, if_true, if_false, z0, bI_k0, bI_k1, isB_b, isB_0, isB_1, kI_long, kd_stI, ln_stI, rv_stI, Nat.reduceLeDiff, Bool.and_true]
  rw [if_neg (by omega), if_neg (by omega)]
  (all_goals first | exact ⟨rfl, rfl⟩ | exact ⟨rfl, trivial⟩ | rfl | trivial)
theorem and_lt {a b n : Nat} (h : a < 2 ^ n) : a &&& b < 2 ^ n := Nat.lt_of_le_of_lt Nat.and_le_left h
theorem cnt_add (p : Nat → Bool) (n : Nat) : ∀ m, (∀ k, n ≤ k → k < n + m → p k = false) → cnt p (n + m) = cnt p n
  | 0, _ => rfl
  | m + 1, h => by
    show cnt p (n + m) + (if p (n + m) = true then 1 else 0) = cnt p n
    rw [cnt_add p n m (fun k h1 h2 => h k h1 (by omega)), h (n + m) (by omega) (by omega)]
    simp
theorem nb_near {s : ST} (w : WFS s) (c m : Nat) : pop (nbF s c &&& m) = nearF s c m := by
  have n2 := w.n12
  unfold pop nearF
  have e : (12 : Nat) = sN s + (12 - sN s) := by omega
  rw [e, cnt_add]
  · refine cnt_congr (fun k hk => ?_)
    rw [Nat.testBit_and]
    unfold nbF
    rw [bitsB_bit]
    simp [hk]
    rw [Bool.and_comm]
  · intro k h1 h2
    rw [Nat.testBit_and]
    unfold nbF
    rw [bitsB_bit]
    simp
    omega
theorem nb_lt {s : ST} (w : WFS s) (c : Nat) : nbF s c < 4096 := Nat.lt_of_lt_of_le (bitsB_lt _ _) (Nat.pow_le_pow_right (n := 2) (by omega) w.n12)
theorem Sh_near_c {T : Nat → Nat} {s : ST} {p d : Nat} {h : AH} (C : XS T s p h) (hd : 2 ≤ d) {c m : Nat} (hc : c < sN s) {K : Int32 → AH → Prop} : CallI d m_Sh_near [.ref p, .int (kI c), .int (kI m)] h K ↔ K (kI (nearF s c m)) h := by
  refine Ret.I (d := 2) (ret_of (s_Sh_near_0 ?_)) hd
  have n2 := C.wf.n12
  have l := nb_lt C.wf c
  have l2 : nbF s c &&& m < 4096 := and_lt (n := 12) l
  simp (disch := omega) only [C.k, C.k10, C.l10, C.c10, isA, ix_lit, inB_lit, decide_true, Bool.true_or, Bool.or_true, true_and, and_true, kI_add, kI_sub, kI_mul, tn_add, Int.toNat_natCast, Int.reduceToNat, kI_le, kI_lt, kI_inj, decide_eq_true_eq, Bool.not_eq_true', decide_eq_false_iff_not, not_true_eq_false, not_false_eq_true, Classical.not_not, Bool.false_eq_true, if_true, if_false, z0, bI_k0, bI_k1, isB_b, isB_0, isB_1, kI_long, kd_stI, ln_stI, rv_stI, Nat.reduceLeDiff, Bool.and_true, kI_and, In_bitCount_c, nb_near C.wf]
  rw [if_neg (by omega), if_neg (by omega)]
  (all_goals first | exact ⟨rfl, rfl⟩ | exact ⟨rfl, trivial⟩ | rfl | trivial)
theorem Sh_left_c {T : Nat → Nat} {s : ST} {p d : Nat} {h : AH} (C : XS T s p h) (hd : 2 ≤ d) {m : Nat} (hm : m < 4096) {K : Int32 → AH → Prop} : CallI d m_Sh_left [.ref p, .int (kI m)] h K ↔ K (kI ((sN s : Int) - pop m)) h := by
  refine Ret.I (d := 2) (ret_of (s_Sh_left_0 ?_)) hd
  simp (disch := omega) only [C.k, C.i2, ix_lit, inB_lit, decide_true, Bool.true_or, Bool.or_true, true_and, and_true, kI_add, kI_sub, kI_mul, tn_add, Int.toNat_natCast, Int.reduceToNat, kI_le, kI_lt, kI_inj, decide_eq_true_eq, Bool.not_eq_true', decide_eq_false_iff_not, not_true_eq_false, not_false_eq_true, Classical.not_not, Bool.false_eq_true, if_true, if_false, z0, bI_k0, bI_k1, isB_b, isB_0, isB_1, kI_long, kd_stI, ln_stI, rv_stI, In_bitCount_c]
theorem abs_kI {a b : Nat} (ha : a < 1000) (hb : b < 1000) : (if 0 ≤ kI a - kI b then kI a - kI b else 0 - (kI a - kI b)) = kI (dist a b) := by
  have e : ((0 : Int32) ≤ kI ((a : Int) - b)) ↔ 0 ≤ (a : Int) - b := by rw [z0]; exact kI_le (by omega) (by omega) (by omega) (by omega)
  rw [kI_sub]
  unfold dist
  by_cases q : 0 ≤ (a : Int) - b
  · rw [if_pos (e.mpr q)]; congr 1; omega
  · rw [if_neg (fun w => q (e.mp w)), z0, kI_sub]; congr 1; omega
theorem kI_rem {a b : Nat} (ha : a < 2147483648) (h0 : 0 < b) (hb : b < 2147483648) : kI a - kI a / kI b * kI b = kI ((a % b : Nat) : Int) := by
  rw [kI_ndiv ha h0 hb, kI_mul, kI_sub, Int.natCast_ediv, rem_int]
  rfl
theorem kI_rem' {a b : Nat} (ha : a < 2147483648) (h0 : 0 < b) (hb : b < 2147483648) : kI a - kI ((a / b : Nat) : Int) * kI b = kI ((a % b : Nat) : Int) := by
  rw [← kI_ndiv ha h0 hb]
  exact kI_rem ha h0 hb
theorem Sh_steps_c {T : Nat → Nat} {s : ST} {p d : Nat} {h : AH} (C : XS T s p h) (hd : 1 ≤ d) {c l : Nat} (hc : c < 100) (hl : l ≤ 12) {K : Int32 → AH → Prop} : CallI d m_Sh_steps [.ref p, .int (kI c), .int (kI (lx l))] h K ↔ K (kI (farF s c l)) h := by
  refine Ret.I (d := 1) (ret_of (s_Sh_steps_0 ?_)) hd
  have w1 := C.wf.2.1
  have w2 := C.wf.2.2.2.1
  unfold lx farF
  by_cases q : l = 12
  · rw [if_pos q, if_pos q]
    simp (disch := omega) only [ix_lit, inB_lit, decide_true, Bool.true_or, Bool.or_true, true_and, and_true, kI_add, kI_sub, kI_mul, tn_add, Int.toNat_natCast, Int.reduceToNat, kI_le, kI_lt, kI_inj, decide_eq_true_eq, Bool.not_eq_true', decide_eq_false_iff_not, not_true_eq_false, not_false_eq_true, Classical.not_not, Bool.false_eq_true, if_true, if_false, z0, bI_k0, bI_k1, isB_b, isB_0, isB_1, kI_long, kd_stI, ln_stI, rv_stI]
    (all_goals first | exact ⟨rfl, rfl⟩ | exact ⟨rfl, trivial⟩ | rfl | trivial)
  · rw [if_neg q, if_neg q]
    have q1 : c / sW s ≤ c := Nat.div_le_self _ _
    have q2 : l / sW s ≤ l := Nat.div_le_self _ _
    have q3 : c % sW s < sW s := Nat.mod_lt _ w1
    have q4 : l % sW s < sW s := Nat.mod_lt _ w1
    have e5 : ¬ kI (sW s : Int) = 0 := by rw [z0, kI_inj (by omega) (by omega) (by omega) (by omega)]; omega
    simp (disch := omega) only [C.k, C.i1, kI_rem', kI_ndiv, abs_kI, decide_true, true_and, decide_eq_true_eq, Bool.not_eq_true', decide_eq_false_iff_not, e5, not_false_eq_true, kI_add, kI_inj]
    rw [if_pos (by omega)]
    (all_goals first | exact ⟨rfl, rfl⟩ | exact ⟨rfl, trivial⟩ | rfl | trivial)
theorem Sh_tellPlace_c {T : Nat → Nat} {s : ST} {p d : Nat} {h : AH} (C : XS T s p h) (hd : 2 ≤ d) {c : Nat} (hc : c < sN s) {n lf : Int32} {K : AH → Prop} : CallV d m_Sh_tellPlace [.ref p, .int (kI c), .int n, .int lf] h K ↔ K (stI (stI (stI (stI h (rvA h p 13) 0 (kI c)) (rvA h p 13) 1 (kI (sK s c))) (rvA h p 13) 2 n) (rvA h p 13) 3 lf) := by
  refine Ret.V (d := 2) (ret_of (s_Sh_tellPlace_0 ?_)) hd
  have e1 := (FG_rfl T h).st C.g13 0 (kI c)
  have C1 := C.fg e1
  simp (disch := omega) only [C.k, C.k13, C.l13, ix_lit, inB_lit, decide_true, Bool.true_or, Bool.or_true, true_and, and_true, kI_add, kI_sub, kI_mul, tn_add, Int.toNat_natCast, Int.reduceToNat, kI_le, kI_lt, kI_inj, decide_eq_true_eq, Bool.not_eq_true', decide_eq_false_iff_not, not_true_eq_false, not_false_eq_true, Classical.not_not, Bool.false_eq_true, if_true, if_false, z0, bI_k0, bI_k1, isB_b, isB_0, isB_1, kI_long, kd_stI, ln_stI, rv_stI, Sh_kindOf_c C1]
/-- the words of may, near and left told -/
def wdN (s : ST) (hd hb c : Nat) (n lf : Int) (l : Nat) (k : Nat) : Int := if k = 0 then c else if k = 1 then sK s c else if k = 2 then n else if k = 3 then lf else if k = 4 then hd else if k = 5 then hb else if k = 6 then (if l = 12 then 9 else sK s l) else farF s c l
def holdF (s : ST) (hd hb c : Nat) (n lf : Int) (l : Nat) : Bool := sM s == [] || evl (wdN s hd hb c n lf l) (sM s) == 1
theorem wdF_N (s : ST) (hd hb c m l : Nat) : wdF s hd hb c m l = wdN s hd hb c (nearF s c m) ((sN s : Int) - pop m) l := by
  funext k
  unfold wdF wdN wdP
  by_cases k0 : k = 0
  · subst k0; rfl
  · by_cases k1 : k = 1
    · subst k1; rfl
    · by_cases k2 : k = 2
      · subst k2; rfl
      · by_cases k3 : k = 3
        · subst k3; rfl
        · rw [if_neg (by omega), if_neg k0, if_neg k1, if_neg k2, if_neg k3]
theorem mayF_N (s : ST) (hd hb c m l : Nat) : mayF s hd hb c m l = (!m.testBit c && holdF s hd hb c (nearF s c m) ((sN s : Int) - pop m) l) := by
  unfold mayF holdF
  rw [wdF_N]
theorem wdN_b {s : ST} (w : WFS s) {hd hb c l : Nat} {n lf : Int} (h1 : hd < 100) (h2 : hb < 100) (hc : c < sN s) (hl : l ≤ 12) (n1 : -100 ≤ n) (n2 : n ≤ 100) (l1 : -100 ≤ lf) (l2 : lf ≤ 100) (k : Nat) : -1000000 ≤ wdN s hd hb c n lf l k ∧ wdN s hd hb c n lf l k ≤ 1000000 := by
  have q2 := w.n12
  have k8 := w.2.2.2.2.2.2.2.1 l
  have k9 := w.2.2.2.2.2.2.2.1 c
  have f := farF_lt w (show c < 100 by omega) hl
  unfold wdN
  split
  · omega
  · split
    · omega
    · split
      · omega
      · split
        · omega
        · split
          · omega
          · split
            · omega
            · split
              · split <;> omega
              · omega
theorem Sh_holds_g {T : Nat → Nat} {s : ST} {p : Nat} {h : AH} (C : XS T s p h) {hd hb c l : Nat} {n lf : Int} (h1 : hd < 100) (h2 : hb < 100) (hc : c < sN s) (hl : l = 12 ∨ l < sN s) (n1 : -100 ≤ n) (n2 : n ≤ 100) (l1 : -100 ≤ lf) (l2 : lf ≤ 100) : GI 3 m_Sh_holds [.ref p, .int (kI hd), .int (kI hb), .int (kI c), .int (kI n), .int (kI lf), .int (kI (lx l))] h (bI32 (holdF s hd hb c n lf l = true)) (FG T h) := by
  have q2 := C.wf.n12
  refine GI_of (s_Sh_holds_0 ?_)
  unfold holdF
  by_cases qm : sM s = []
  · simp (disch := omega) only [C.k, C.m0 qm, ix_lit, inB_lit, decide_true, Bool.true_or, Bool.or_true, true_and, and_true, kI_add, kI_sub, kI_mul, tn_add, Int.toNat_natCast, Int.reduceToNat, kI_le, kI_lt, kI_inj, decide_eq_true_eq, Bool.not_eq_true', decide_eq_false_iff_not, not_true_eq_false, not_false_eq_true, Classical.not_not, Bool.false_eq_true, if_true, if_false, z0, bI_k0, bI_k1, isB_b, isB_0, isB_1, kI_long, kd_stI, ln_stI, rv_stI, qm]
    exact ⟨rfl, Fr_rfl _ _ _⟩
  · have X := (C.m1 qm).1
    have X2 := (C.m1 qm).2
    have r0 : ¬ rvA h p 11 = 0 := by have := X.bq; omega
    have hty : tyR (sM s) [] = some [true] := by
      rcases C.wf.2.2.2.2.2.2.2.2.1 with e | e
      · exact absurd e qm
      · exact e
    have fw := fun k => wdN_b C.wf h1 h2 hc (show l ≤ 12 by omega) n1 n2 l1 l2 k
    have e5 := (((((FG_rfl T h).st C.g13 0 (kI c)).st C.g13 1 (kI (sK s c))).st C.g13 2 (kI n)).st C.g13 3 (kI lf)).st C.g13 4 (kI hd) |>.st C.g13 5 (kI hb)
    have C5 := C.fg e5
    have fin : Safe 2 m_Sh_holds (55, [.ref p, unV, unV, .int (kI c), unV, unV, .int (kI (lx l))], [.int (kI (if l = 12 then 9 else sK s l)), .int (kI 6), .ref (rvA h p 13)], stI (stI (stI (stI (stI (stI h (rvA h p 13) 0 (kI c)) (rvA h p 13) 1 (kI (sK s c))) (rvA h p 13) 2 (kI n)) (rvA h p 13) 3 (kI lf)) (rvA h p 13) 4 (kI hd)) (rvA h p 13) 5 (kI hb)) (fun v k => v = some (.int (bI32 ((sM s == [] || evl (wdN s hd hb c n lf l) (sM s) == 1) = true))) ∧ FG T h k) := by
      have e6 := e5.st C.g13 6 (kI (if l = 12 then 9 else sK s l))
      have C6 := C.fg e6
      have e7 := e6.st C.g13 7 (kI (farF s c l))
      have X7 := ((C.fg e7).m1 qm).1
      refine s_Sh_holds_55 ?_
      simp (disch := omega) only [C.k, C.k13, C.l13, X.k, ix_lit, inB_lit, decide_true, Bool.true_or, Bool.or_true, true_and, and_true, kI_add, kI_sub, kI_mul, tn_add, Int.toNat_natCast, Int.reduceToNat, kI_le, kI_lt, kI_inj, decide_eq_true_eq, Bool.not_eq_true', decide_eq_false_iff_not, not_true_eq_false, not_false_eq_true, Classical.not_not, Bool.false_eq_true, if_true, if_false, z0, bI_k0, bI_k1, isB_b, isB_0, isB_1, kI_long, kd_stI, ln_stI, rv_stI, Sh_steps_c C6]
      refine GI.use (La_value_g X7 (w := wdN s hd hb c n lf l) (nw := 8) (by simp only [kd_stI, C.k13]) (by simp only [ln_stI, C.l13]) (by simp only [rv_stI]; exact X2) hty (fun k _ => fw k) (by omega) (fun c _ _ h8 => h8) (fun k hk => ?_)) (by omega) (fun h8 e8 => ?_)
      · simp only [iv_stI, true_and]
        unfold wdN
        have e : k = 0 ∨ k = 1 ∨ k = 2 ∨ k = 3 ∨ k = 4 ∨ k = 5 ∨ k = 6 ∨ k = 7 := by omega
        rcases e with rfl | rfl | rfl | rfl | rfl | rfl | rfl | rfl <;> rfl
      · have ef : FG T h h8 := e7.trans (e8.mono (fun a k w => by subst w; exact X7.g1) (fun _ _ w => w))
        have eq : (sM s == []) = false := by simpa using qm
        rw [eq]
        rcases evl_truth (fun k _ => fw k) hty with z | z
        · rw [z]
          exact ⟨rfl, ef⟩
        · rw [z]
          exact ⟨rfl, ef⟩
    by_cases ql : l = 12
    · rw [if_pos ql] at fin
      have el : lx l = -1 := by unfold lx; rw [if_pos ql]
      simp (disch := omega) only [C.k, C.k13, C.l13, r0, ix_lit, inB_lit, decide_true, Bool.true_or, Bool.or_true, true_and, and_true, kI_add, kI_sub, kI_mul, tn_add, Int.toNat_natCast, Int.reduceToNat, kI_le, kI_lt, kI_inj, decide_eq_true_eq, Bool.not_eq_true', decide_eq_false_iff_not, not_true_eq_false, not_false_eq_true, Classical.not_not, Bool.false_eq_true, if_true, if_false, z0, bI_k0, bI_k1, isB_b, isB_0, isB_1, kI_long, kd_stI, ln_stI, rv_stI, Sh_tellPlace_c C]
      rw [el] at fin ⊢
      simp (disch := omega) only [ix_lit, inB_lit, decide_true, Bool.true_or, Bool.or_true, true_and, and_true, kI_add, kI_sub, kI_mul, tn_add, Int.toNat_natCast, Int.reduceToNat, kI_le, kI_lt, kI_inj, decide_eq_true_eq, Bool.not_eq_true', decide_eq_false_iff_not, not_true_eq_false, not_false_eq_true, Classical.not_not, Bool.false_eq_true, if_true, if_false, z0, bI_k0, bI_k1, isB_b, isB_0, isB_1, kI_long, kd_stI, ln_stI, rv_stI]
      exact fin
    · rw [if_neg ql] at fin
      have el : lx l = l := by unfold lx; rw [if_neg ql]
      rw [el] at fin ⊢
      simp (disch := omega) only [C.k, C.k13, C.l13, r0, ix_lit, inB_lit, decide_true, Bool.true_or, Bool.or_true, true_and, and_true, kI_add, kI_sub, kI_mul, tn_add, Int.toNat_natCast, Int.reduceToNat, kI_le, kI_lt, kI_inj, decide_eq_true_eq, Bool.not_eq_true', decide_eq_false_iff_not, not_true_eq_false, not_false_eq_true, Classical.not_not, Bool.false_eq_true, if_true, if_false, z0, bI_k0, bI_k1, isB_b, isB_0, isB_1, kI_long, kd_stI, ln_stI, rv_stI, Sh_tellPlace_c C, Sh_kindOf_c C5]
      rw [if_pos (by omega)]
      exact fin
theorem Sh_allows_g {T : Nat → Nat} {s : ST} {p : Nat} {h : AH} (C : XS T s p h) {hd hb c m l : Nat} (h1 : hd < 100) (h2 : hb < 100) (hc : c < sN s) (hm : m < 4096) (hl : l = 12 ∨ l < sN s) : GI 4 m_Sh_allows [.ref p, .int (kI hd), .int (kI hb), .int (kI c), .int (kI m), .int (kI (lx l))] h (bI32 (mayF s hd hb c m l = true)) (FG T h) := by
  have q2 := C.wf.n12
  have p1 := pop_le m
  have p2 : nearF s c m ≤ sN s := cnt_le _ _
  refine GI_of (s_Sh_allows_0 ?_)
  rw [mayF_N]
  have hcell : (0 : Int) ≤ (c : Int) ∧ (c : Int) < sN s := by omega
  simp (disch := omega) only [C.k, ix_lit, inB_lit, decide_true, Bool.true_or, Bool.or_true, true_and, and_true, kI_add, kI_sub, kI_mul, tn_add, Int.toNat_natCast, Int.reduceToNat, kI_le, kI_lt, kI_inj, decide_eq_true_eq, Bool.not_eq_true', decide_eq_false_iff_not, not_true_eq_false, not_false_eq_true, Classical.not_not, Bool.false_eq_true, if_true, if_false, z0, bI_k0, bI_k1, isB_b, isB_0, isB_1, kI_long, kd_stI, ln_stI, rv_stI, Sh_hasCell_c C, kI_bit, hcell, Sh_near_c C, Sh_left_c C]
  by_cases q : m.testBit c = true
  · rw [if_pos q, q]
    exact ⟨rfl, Fr_rfl _ _ _⟩
  · have q' : m.testBit c = false := by simpa using q
    rw [if_neg q, q']
    refine GI.use (Sh_holds_g C h1 h2 hc hl (by omega) (by omega) (by omega) (by omega)) (by omega) (fun h8 e8 => ?_)
    simp (disch := omega) only [ix_lit, inB_lit, decide_true, Bool.true_or, Bool.or_true, true_and, and_true, kI_add, kI_sub, kI_mul, tn_add, Int.toNat_natCast, Int.reduceToNat, kI_le, kI_lt, kI_inj, decide_eq_true_eq, Bool.not_eq_true', decide_eq_false_iff_not, not_true_eq_false, not_false_eq_true, Classical.not_not, Bool.false_eq_true, if_true, if_false, z0, bI_k0, bI_k1, isB_b, isB_0, isB_1, kI_long, kd_stI, ln_stI, rv_stI, Bool.not_false, Bool.true_and]
    by_cases z : holdF s hd hb c (nearF s c m) ((sN s : Int) - pop m) l = true
    · rw [if_neg (fun w => w z), z]
      exact ⟨rfl, e8⟩
    · rw [if_pos z]
      have z' : holdF s hd hb c (nearF s c m) ((sN s : Int) - pop m) l = false := by simpa using z
      rw [z']
      exact ⟨rfl, e8⟩
theorem Sh_oddsOf_g {T : Nat → Nat} {s : ST} {p : Nat} {h : AH} (C : XS T s p h) {c m : Nat} (hc : c < sN s) (hm : m < 4096) : GI 3 m_Sh_oddsOf [.ref p, .int (kI c), .int (kI m)] h (kI (oddF s c m)) (FG T h) := by
  have q2 := C.wf.n12
  have p1 := pop_le m
  have p2 : nearF s c m ≤ sN s := cnt_le _ _
  have hcell : (0 : Int) ≤ (c : Int) ∧ (c : Int) < sN s := by omega
  refine GI_of (s_Sh_oddsOf_0 ?_)
  unfold oddF
  by_cases q : m.testBit c = true
  · simp (disch := omega) only [C.k, ix_lit, inB_lit, decide_true, Bool.true_or, Bool.or_true, true_and, and_true, kI_add, kI_sub, kI_mul, tn_add, Int.toNat_natCast, Int.reduceToNat, kI_le, kI_lt, kI_inj, decide_eq_true_eq, Bool.not_eq_true', decide_eq_false_iff_not, not_true_eq_false, not_false_eq_true, Classical.not_not, Bool.false_eq_true, if_true, if_false, z0, bI_k0, bI_k1, isB_b, isB_0, isB_1, kI_long, kd_stI, ln_stI, rv_stI, Sh_hasCell_c C, kI_bit, hcell, q]
    exact ⟨rfl, Fr_rfl _ _ _⟩
  · have q' : m.testBit c = false := by simpa using q
    by_cases qm : sO s = []
    · simp (disch := omega) only [C.k, ix_lit, inB_lit, decide_true, Bool.true_or, Bool.or_true, true_and, and_true, kI_add, kI_sub, kI_mul, tn_add, Int.toNat_natCast, Int.reduceToNat, kI_le, kI_lt, kI_inj, decide_eq_true_eq, Bool.not_eq_true', decide_eq_false_iff_not, not_true_eq_false, not_false_eq_true, Classical.not_not, Bool.false_eq_true, if_true, if_false, z0, bI_k0, bI_k1, isB_b, isB_0, isB_1, kI_long, kd_stI, ln_stI, rv_stI, Sh_hasCell_c C, kI_bit, hcell, q', C.o0 qm, qm]
      exact ⟨rfl, Fr_rfl _ _ _⟩
    · have X := (C.o1 qm).1
      have X2 := (C.o1 qm).2
      have r0 : ¬ rvA h p 12 = 0 := by have := X.bq; omega
      have hty : tyR (sO s) [] = some [false] := by
        rcases C.wf.2.2.2.2.2.2.2.2.2.1 with e | e
        · exact absurd e qm
        · exact e
      have hw := C.wf.2.2.2.2.2.2.2.2.2.2
      have e4 := ((((FG_rfl T h).st C.g13 0 (kI c)).st C.g13 1 (kI (sK s c))).st C.g13 2 (kI (nearF s c m))).st C.g13 3 (kI ((sN s : Int) - pop m))
      have X4 := ((C.fg e4).o1 qm).1
      simp (disch := omega) only [C.k, X.k, ix_lit, inB_lit, decide_true, Bool.true_or, Bool.or_true, true_and, and_true, kI_add, kI_sub, kI_mul, tn_add, Int.toNat_natCast, Int.reduceToNat, kI_le, kI_lt, kI_inj, decide_eq_true_eq, Bool.not_eq_true', decide_eq_false_iff_not, not_true_eq_false, not_false_eq_true, Classical.not_not, Bool.false_eq_true, if_true, if_false, z0, bI_k0, bI_k1, isB_b, isB_0, isB_1, kI_long, kd_stI, ln_stI, rv_stI, Sh_hasCell_c C, kI_bit, hcell, q', r0, Sh_near_c C, Sh_left_c C, Sh_tellPlace_c C, qm]
      refine GI.use (La_value_g X4 (w := wdP s c m) (nw := 4) (by simp only [kd_stI, C.k13]) (by simp only [ln_stI, C.l13]) (by simp only [rv_stI]; exact X2) hty (fun k _ => wdP_b C.wf hc k) (by omega) (fun c h1 h2 h3 => by have := hw c h1; omega) (fun k hk => ?_)) (by omega) (fun h8 e8 => ?_)
      · simp only [iv_stI, true_and]
        unfold wdP
        have e : k = 0 ∨ k = 1 ∨ k = 2 ∨ k = 3 := by omega
        rcases e with rfl | rfl | rfl | rfl <;> rfl
      · have ef : FG T h h8 := e4.trans (e8.mono (fun a k w => by subst w; exact X4.g1) (fun _ _ w => w))
        have eb := evl_num (fun k _ => wdP_b C.wf (m := m) hc k) hty
        simp (disch := omega) only [ix_lit, inB_lit, decide_true, Bool.true_or, Bool.or_true, true_and, and_true, kI_add, kI_sub, kI_mul, tn_add, Int.toNat_natCast, Int.reduceToNat, kI_le, kI_lt, kI_inj, decide_eq_true_eq, Bool.not_eq_true', decide_eq_false_iff_not, not_true_eq_false, not_false_eq_true, Classical.not_not, Bool.false_eq_true, if_true, if_false, z0, bI_k0, bI_k1, isB_b, isB_0, isB_1, kI_long, kd_stI, ln_stI, rv_stI]
        refine ⟨?_, ef⟩
        congr 2
        have g0 : (kI 0 < kI (evl (wdP s c m) (sO s))) ↔ 0 < evl (wdP s c m) (sO s) := kI_lt (by omega) (by omega) (by omega) (by omega)
        by_cases g2 : evl (wdP s c m) (sO s) < 999
        · rw [if_pos g2, Int.min_eq_right (by omega)]
          by_cases g1 : 0 < evl (wdP s c m) (sO s)
          · rw [if_pos (g0.mpr g1), Int.toNat_of_nonneg (by omega)]
          · rw [if_neg (fun w => g1 (g0.mp w)), Int.toNat_of_nonpos (by omega)]
            rfl
        · rw [if_neg g2, Int.min_eq_left (by omega)]
          rfl
def sumF (f : Nat → Nat) : Nat → Nat
  | 0 => 0
  | k + 1 => sumF f k + f k
theorem sumF_le {f : Nat → Nat} {b : Nat} (h : ∀ k, f k ≤ b) : ∀ n, sumF f n ≤ b * n
  | 0 => Nat.le_refl _
  | k + 1 => by
    have := sumF_le h k
    have := h k
    show sumF f k + f k ≤ b * (k + 1)
    rw [Nat.mul_succ]
    omega
theorem oddF_le (s : ST) (c m : Nat) : oddF s c m ≤ 999 := by
  unfold oddF
  split
  · omega
  · split <;> omega
def oddsT (s : ST) (m : Nat) : Nat := sumF (fun c => oddF s c m) (sN s)
theorem oddsT_le {s : ST} (w : WFS s) (m : Nat) : oddsT s m ≤ 12000 := by
  have h1 := sumF_le (fun c => oddF_le s c m) (sN s)
  have h2 := w.n12
  unfold oddsT
  omega
theorem Sh_allOdds_g {T : Nat → Nat} {s : ST} {p : Nat} {h : AH} (C : XS T s p h) {m : Nat} (hm : m < 4096) : GI 4 m_Sh_allOdds [.ref p, .int (kI m)] h (kI (oddsT s m)) (FG T h) := by
  have q2 := C.wf.n12
  refine GI_of (s_Sh_allOdds_0 ?_)
  suffices H : ∀ k, k ≤ sN s → ∀ h1, FG T h h1 → Safe 3 m_Sh_allOdds (4, [.ref p, .int (kI m), .int (kI (sumF (fun c => oddF s c m) k : Nat)), .int (kI k)], [], h1) (fun v h' => v = some (.int (kI (oddsT s m))) ∧ FG T h h') by
    exact H 0 (by omega) h (Fr_rfl _ _ _)
  refine down_ind (sN s) ?_ ?_
  · intro h1 e1
    have C1 := C.fg e1
    refine s_Sh_allOdds_4 ?_
    simp (disch := omega) only [C1.k, C1.i2, ix_lit, inB_lit, decide_true, Bool.true_or, Bool.or_true, true_and, and_true, kI_add, kI_sub, kI_mul, tn_add, Int.toNat_natCast, Int.reduceToNat, kI_le, kI_lt, kI_inj, decide_eq_true_eq, Bool.not_eq_true', decide_eq_false_iff_not, not_true_eq_false, not_false_eq_true, Classical.not_not, Bool.false_eq_true, if_true, if_false, z0, bI_k0, bI_k1, isB_b, isB_0, isB_1, kI_long, kd_stI, ln_stI, rv_stI, Int.le_refl]
    exact ⟨rfl, e1⟩
  · intro k hk ih h1 e1
    have C1 := C.fg e1
    refine s_Sh_allOdds_4 ?_
    simp (disch := omega) only [C1.k, C1.i2, ix_lit, inB_lit, decide_true, Bool.true_or, Bool.or_true, true_and, and_true, kI_add, kI_sub, kI_mul, tn_add, Int.toNat_natCast, Int.reduceToNat, kI_le, kI_lt, kI_inj, decide_eq_true_eq, Bool.not_eq_true', decide_eq_false_iff_not, not_true_eq_false, not_false_eq_true, Classical.not_not, Bool.false_eq_true, if_true, if_false, z0, bI_k0, bI_k1, isB_b, isB_0, isB_1, kI_long, kd_stI, ln_stI, rv_stI]
    rw [if_neg (by omega)]
    refine GI.use (Sh_oddsOf_g C1 hk hm) (by omega) (fun h2 e2 => ?_)
    simp only [kI_add]
    exact ih h2 (e1.trans e2)
