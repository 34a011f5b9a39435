/-! numbers and heaps of the small machine -/
theorem kI_add (a b : Int) : kI a + kI b = kI (a + b) := (Int32.ofInt_add a b).symm
theorem kI_sub (a b : Int) : kI a - kI b = kI (a - b) := (Int32.ofInt_sub a b).symm
theorem kI_mul (a b : Int) : kI a * kI b = kI (a * b) := (Int32.ofInt_mul a b).symm
theorem kI_neg (a : Int) : - kI a = kI (-a) := (Int32.ofInt_neg a).symm
theorem kI_toInt {a : Int} (h1 : -2147483648 ≤ a) (h2 : a ≤ 2147483647) : (kI a).toInt = a := Int32.toInt_ofInt_of_le (by omega) (by omega)
theorem kI_of (x : Int32) : x = kI x.toInt := by
  apply Int32.toInt_inj.mp
  have h1 := Int32.le_toInt x
  have h2 := Int32.toInt_lt x
  rw [kI_toInt (by omega) (by omega)]
theorem kI_le {a b : Int} (h1 : -2147483648 ≤ a) (h2 : a ≤ 2147483647) (h3 : -2147483648 ≤ b) (h4 : b ≤ 2147483647) : kI a ≤ kI b ↔ a ≤ b := by
  rw [Int32.le_iff_toInt_le, kI_toInt h1 h2, kI_toInt h3 h4]
theorem kI_lt {a b : Int} (h1 : -2147483648 ≤ a) (h2 : a ≤ 2147483647) (h3 : -2147483648 ≤ b) (h4 : b ≤ 2147483647) : kI a < kI b ↔ a < b := by
  rw [Int32.lt_iff_toInt_lt, kI_toInt h1 h2, kI_toInt h3 h4]
theorem kI_inj {a b : Int} (h1 : -2147483648 ≤ a) (h2 : a ≤ 2147483647) (h3 : -2147483648 ≤ b) (h4 : b ≤ 2147483647) : kI a = kI b ↔ a = b := by
  rw [← Int32.toInt_inj, kI_toInt h1 h2, kI_toInt h3 h4]
theorem kI_0 : kI 0 = 0 := rfl
theorem kI_1 : kI 1 = 1 := rfl
theorem ix_kI {n : Nat} (h : (n : Int) ≤ 2147483647) : ix (kI n) = n := by
  show (kI n).toInt.toNat = n
  rw [kI_toInt (by omega) h]
  omega
theorem inB_kI {n m : Nat} (h : (n : Int) ≤ 2147483647) (hm : n < m) : inB (kI n) m = true := by
  unfold inB
  have h1 : ¬ kI (n : Int) < 0 := by
    rw [← kI_0, kI_lt (by omega) h (by omega) (by omega)]
    omega
  rw [show (kI (n : Int)).toNatClampNeg = n from ix_kI h]
  simp [h1, hm]
theorem down_ind {P : Nat → Prop} (n : Nat) (exit : P n) (step : ∀ k, k < n → P (k + 1) → P k) : ∀ k, k ≤ n → P k := by
  have key : ∀ m k, k + m = n → P k := by
    intro m
    induction m with
    | zero => intro k hk; rw [show k = n by omega]; exact exit
    | succ m ih => intro k hk; exact step k (by omega) (ih (k + 1) (by omega))
  intro k hk
  exact key (n - k) k (by omega)
theorem kd_stI (h : AH) (a k : Nat) (x : Int32) (b : Nat) : kdA (stI h a k x) b = kdA h b := rfl
theorem ln_stI (h : AH) (a k : Nat) (x : Int32) (b : Nat) : lnA (stI h a k x) b = lnA h b := rfl
theorem rv_stI (h : AH) (a k : Nat) (x : Int32) (b j : Nat) : rvA (stI h a k x) b j = rvA h b j := rfl
theorem jv_stI (h : AH) (a k : Nat) (x : Int32) (b j : Nat) : jvA (stI h a k x) b j = jvA h b j := rfl
theorem kd_stJ (h : AH) (a k : Nat) (x : Int64) (b : Nat) : kdA (stJ h a k x) b = kdA h b := rfl
theorem ln_stJ (h : AH) (a k : Nat) (x : Int64) (b : Nat) : lnA (stJ h a k x) b = lnA h b := rfl
theorem rv_stJ (h : AH) (a k : Nat) (x : Int64) (b j : Nat) : rvA (stJ h a k x) b j = rvA h b j := rfl
theorem iv_stJ (h : AH) (a k : Nat) (x : Int64) (b j : Nat) : ivA (stJ h a k x) b j = ivA h b j := rfl
theorem fix_stI {h : AH} (F : Fix h) (a k : Nat) (x : Int32) : Fix (stI h a k x) := F
theorem fix_stJ {h : AH} (F : Fix h) (a k : Nat) (x : Int64) : Fix (stJ h a k x) := F
theorem isB_0 : isB (kI 0) = true := by decide
theorem isB_1 : isB (kI 1) = true := by decide
theorem ix_lit {n : Int} (h0 : 0 ≤ n) (h1 : n ≤ 2147483647) : ix (kI n) = n.toNat := by
  show (kI n).toInt.toNat = n.toNat
  rw [kI_toInt (by omega) h1]
theorem inB_lit {n : Int} {m : Nat} (h0 : 0 ≤ n) (h1 : n ≤ 2147483647) (hm : n < m) : inB (kI n) m = true := by
  unfold inB
  have h2 : ¬ kI n < 0 := by
    rw [← kI_0, kI_lt (by omega) h1 (by omega) (by omega)]
    omega
  rw [show (kI n).toNatClampNeg = n.toNat from ix_lit h0 h1]
  simp [h2]
  omega
/-- a truth as an int -/
def bI32 (p : Prop) [Decidable p] : Int32 := if p then kI 1 else kI 0
theorem isB_b (p : Prop) [Decidable p] : isB (bI32 p) = true := by
  unfold bI32
  split
  · exact isB_1
  · exact isB_0
theorem bI_0 (p : Prop) [Decidable p] : (bI32 p = 0) ↔ ¬ p := by
  unfold bI32
  by_cases h : p
  · rw [if_pos h]; exact ⟨fun q => absurd q (by decide), fun q => absurd h q⟩
  · rw [if_neg h]; exact ⟨fun _ => h, fun _ => rfl⟩
theorem cmp_lt (x y : Int64) : (lg_cmp x y < 0) ↔ x < y := by
  unfold lg_cmp
  have h1 : ¬ ((1 : Int32) < 0) := by decide
  have h2 : ¬ ((0 : Int32) < 0) := by decide
  have h3 : ((-1 : Int32) < 0) := by decide
  split
  · rename_i h
    constructor
    · intro q; exact absurd q h1
    · intro q
      rw [gt_iff_lt, Int64.lt_iff_toInt_lt] at h
      rw [Int64.lt_iff_toInt_lt] at q
      omega
  · rename_i h
    split
    · rename_i h4
      constructor
      · intro q; exact absurd q h2
      · intro q
        rw [h4, Int64.lt_iff_toInt_lt] at q
        omega
    · rename_i h4
      constructor
      · intro _
        rw [gt_iff_lt, Int64.lt_iff_toInt_lt] at h
        rw [← Int64.toInt_inj] at h4
        rw [Int64.lt_iff_toInt_lt]
        omega
      · intro _; exact h3
theorem cmp_gt (x y : Int64) : (0 < lg_cmp x y) ↔ y < x := by
  unfold lg_cmp
  have h1 : ((0 : Int32) < 1) := by decide
  have h2 : ¬ ((0 : Int32) < 0) := by decide
  have h3 : ¬ ((0 : Int32) < -1) := by decide
  split
  · rename_i h
    exact ⟨fun _ => h, fun _ => h1⟩
  · rename_i h
    split
    · exact ⟨fun q => absurd q h2, fun q => absurd q h⟩
    · exact ⟨fun q => absurd q h3, fun q => absurd q h⟩
theorem cmp_eq (x y : Int64) : (lg_cmp x y = 0) ↔ x = y := by
  unfold lg_cmp
  have h1 : ¬ ((1 : Int32) = 0) := by decide
  have h3 : ¬ ((-1 : Int32) = 0) := by decide
  split
  · rename_i h
    constructor
    · intro q; exact absurd q h1
    · intro q
      rw [q, gt_iff_lt, Int64.lt_iff_toInt_lt] at h
      omega
  · split
    · rename_i h4; exact ⟨fun _ => h4, fun _ => rfl⟩
    · rename_i h4; exact ⟨fun q => absurd q h3, fun q => absurd q h4⟩
