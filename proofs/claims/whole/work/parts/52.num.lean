/-! numbers: naturals in ints and longs, bits, division -/
theorem kI_nN (n : Nat) : kI n = nI n := by
  apply Int32.toBitVec_inj.mp
  show BitVec.ofInt 32 (n : Int) = BitVec.ofNat 32 n
  exact BitVec.ofInt_natCast 32 n
theorem z0 : (0 : Int32) = kI 0 := rfl
theorem z31 : (31 : Int32) = kI 31 := rfl
theorem sm32 : ∀ c : Nat, c < 32 → ((nI c &&& 31).toBitVec.smod 32).toNat = c := by decide +kernel
theorem kI_shr {m c : Nat} (hm : m < 2147483648) (hc : c < 32) : kI m >>> (kI c &&& 31) = kI ((m / 2 ^ c : Nat) : Int) := by
  rw [kI_nN, kI_nN, kI_nN (m / 2 ^ c)]
  exact pk_shrN hm _ c (sm32 c hc)
theorem kI_shl1 {c : Nat} (hc : c < 31) : kI 1 <<< (kI c &&& 31) = kI ((2 ^ c : Nat) : Int) := by
  have e : kI 1 = nI 1 := kI_nN 1
  rw [e, kI_nN, kI_nN (2 ^ c)]
  have h1 : 2 ^ c < 2 ^ 31 := Nat.pow_lt_pow_right (by omega) hc
  have e2 := pk_shlN (n := 1) (nI c &&& 31) c (sm32 c (by omega)) (by omega)
  rw [Nat.one_mul] at e2
  exact e2
theorem kI_and (a b : Nat) : kI a &&& kI b = kI ((a &&& b : Nat) : Int) := by
  rw [kI_nN, kI_nN, kI_nN (a &&& b)]
  apply Int32.toBitVec_inj.mp
  show BitVec.ofNat 32 a &&& BitVec.ofNat 32 b = BitVec.ofNat 32 (a &&& b)
  exact BitVec.ofNat_and.symm
theorem kI_or (a b : Nat) : kI a ||| kI b = kI ((a ||| b : Nat) : Int) := by
  rw [kI_nN, kI_nN, kI_nN (a ||| b)]
  apply Int32.toBitVec_inj.mp
  show BitVec.ofNat 32 a ||| BitVec.ofNat 32 b = BitVec.ofNat 32 (a ||| b)
  exact BitVec.ofNat_or.symm
theorem kI_xor (a b : Nat) : kI a ^^^ kI b = kI ((a ^^^ b : Nat) : Int) := by
  rw [kI_nN, kI_nN, kI_nN (a ^^^ b)]
  apply Int32.toBitVec_inj.mp
  show BitVec.ofNat 32 a ^^^ BitVec.ofNat 32 b = BitVec.ofNat 32 (a ^^^ b)
  exact BitVec.ofNat_xor.symm
/-- a without b, as sets of bits -/
def dif (a b : Nat) : Nat := a ^^^ (a &&& b)
theorem dif_bit (a b k : Nat) : (dif a b).testBit k = (a.testBit k && !b.testBit k) := by
  unfold dif
  rw [Nat.testBit_xor, Nat.testBit_and]
  cases a.testBit k <;> cases b.testBit k <;> rfl
theorem bv_dif (x y : BitVec 32) : x &&& (y ^^^ BitVec.ofInt 32 (-1)) = x ^^^ (x &&& y) := by
  have e : BitVec.ofInt 32 (-1) = BitVec.allOnes 32 := by decide
  rw [e, BitVec.xor_allOnes]
  apply BitVec.eq_of_getLsbD_eq
  intro i hi
  simp only [BitVec.getLsbD_and, BitVec.getLsbD_not, BitVec.getLsbD_xor, hi, decide_true, Bool.true_and]
  cases x.getLsbD i <;> cases y.getLsbD i <;> rfl
theorem kI_dif (a b : Nat) : kI a &&& (kI b ^^^ kI (-1)) = kI ((dif a b : Nat) : Int) := by
  unfold dif
  rw [← kI_xor, ← kI_and]
  apply Int32.toBitVec_inj.mp
  show BitVec.ofInt 32 a &&& (BitVec.ofInt 32 b ^^^ BitVec.ofInt 32 (-1)) = BitVec.ofInt 32 a ^^^ (BitVec.ofInt 32 a &&& BitVec.ofInt 32 b)
  exact bv_dif _ _
theorem bit_dec (m c : Nat) : m.testBit c = decide (m / 2 ^ c % 2 = 1) := Nat.testBit_eq_decide_div_mod_eq
theorem kI_bit {m c : Nat} (hm : m < 2147483648) (hc : c < 32) : (kI m >>> (kI c &&& 31)) &&& kI 1 = bI32 (m.testBit c = true) := by
  rw [kI_shr hm hc, show kI 1 = kI ((1 : Nat) : Int) from rfl, kI_and, Nat.and_one_is_mod]
  unfold bI32
  have h2 : m / 2 ^ c % 2 = 0 ∨ m / 2 ^ c % 2 = 1 := by omega
  have h3 := bit_dec m c
  rcases h2 with h2 | h2
  · rw [h2] at h3 ⊢
    rw [if_neg (by rw [h3]; decide)]
    rfl
  · rw [h2] at h3 ⊢
    rw [if_pos (by rw [h3]; decide)]
    rfl
theorem kI_long {a : Int} (h1 : -2147483648 ≤ a) (h2 : a ≤ 2147483647) : (kI a).toInt64 = kJ a := by
  apply Int64.toInt_inj.mp
  rw [Int32.toInt_toInt64, kI_toInt h1 h2]
  exact (Int64.toInt_ofInt_of_le (by omega) (by omega)).symm
theorem kJ_toInt {a : Int} (h1 : -9223372036854775808 ≤ a) (h2 : a ≤ 9223372036854775807) : (kJ a).toInt = a := Int64.toInt_ofInt_of_le (by omega) (by omega)
theorem kJ_le {a b : Int} (h1 : -9223372036854775808 ≤ a) (h2 : a ≤ 9223372036854775807) (h3 : -9223372036854775808 ≤ b) (h4 : b ≤ 9223372036854775807) : kJ a ≤ kJ b ↔ a ≤ b := by
  rw [Int64.le_iff_toInt_le, kJ_toInt h1 h2, kJ_toInt h3 h4]
theorem kJ_lt {a b : Int} (h1 : -9223372036854775808 ≤ a) (h2 : a ≤ 9223372036854775807) (h3 : -9223372036854775808 ≤ b) (h4 : b ≤ 9223372036854775807) : kJ a < kJ b ↔ a < b := by
  rw [Int64.lt_iff_toInt_lt, kJ_toInt h1 h2, kJ_toInt h3 h4]
theorem kJ_inj {a b : Int} (h1 : -9223372036854775808 ≤ a) (h2 : a ≤ 9223372036854775807) (h3 : -9223372036854775808 ≤ b) (h4 : b ≤ 9223372036854775807) : kJ a = kJ b ↔ a = b := by
  rw [← Int64.toInt_inj, kJ_toInt h1 h2, kJ_toInt h3 h4]
theorem kJ_add (a b : Int) : kJ a + kJ b = kJ (a + b) := (Int64.ofInt_add a b).symm
theorem kJ_sub (a b : Int) : kJ a - kJ b = kJ (a - b) := (Int64.ofInt_sub a b).symm
theorem kJ_mul (a b : Int) : kJ a * kJ b = kJ (a * b) := (Int64.ofInt_mul a b).symm
theorem kJ_neg (a : Int) : - kJ a = kJ (-a) := (Int64.ofInt_neg a).symm
theorem kJ_of (x : Int64) : x = kJ x.toInt := by
  apply Int64.toInt_inj.mp
  have h1 := Int64.le_toInt x
  have h2 := Int64.toInt_lt x
  rw [kJ_toInt (by omega) (by omega)]
theorem zJ0 : (0 : Int64) = kJ 0 := rfl
theorem kJ_int {a : Int} (h1 : -2147483648 ≤ a) (h2 : a ≤ 2147483647) : (kJ a).toInt32 = kI a := by
  rw [← kI_long h1 h2, Int32.toInt32_toInt64]
theorem sm64 : ∀ c : Nat, c < 64 → (((nI c).toInt64 &&& 63).toBitVec.smod 64).toNat = c := by decide +kernel
theorem kJ_shr {m c : Nat} (hm : m < 9223372036854775808) (hc : c < 64) : kJ m >>> ((kI c).toInt64 &&& 63) = kJ ((m / 2 ^ c : Nat) : Int) := by
  apply Int64.toInt_inj.mp
  have h1 : m / 2 ^ c ≤ m := Nat.div_le_self _ _
  have e : (kJ m >>> ((kI c).toInt64 &&& 63)).toInt = (kJ m).toInt >>> c := by
    show ((kJ m).toBitVec.sshiftRight ((((kI c).toInt64 &&& 63).toBitVec.smod 64)).toNat).toInt = _
    have e3 : (((kI c).toInt64 &&& 63).toBitVec.smod 64).toNat = c := by
      rw [kI_nN c]
      exact sm64 c hc
    rw [e3, BitVec.toInt_sshiftRight]
    rfl
  have h0 : 0 ≤ ((m / 2 ^ c : Nat) : Int) := Int.natCast_nonneg _
  rw [e, kJ_toInt (by omega) (by omega), kJ_toInt (by omega) (by omega), Int.shiftRight_eq_div_pow]
  rfl
theorem kJ_nat (n : Nat) : kJ n = lN n := by
  apply Int64.toBitVec_inj.mp
  show BitVec.ofInt 64 (n : Int) = BitVec.ofNat 64 n
  exact BitVec.ofInt_natCast 64 n
theorem kJ_and (a b : Nat) : kJ a &&& kJ b = kJ ((a &&& b : Nat) : Int) := by
  rw [kJ_nat, kJ_nat, kJ_nat (a &&& b)]
  apply Int64.toBitVec_inj.mp
  show BitVec.ofNat 64 a &&& BitVec.ofNat 64 b = BitVec.ofNat 64 (a &&& b)
  exact BitVec.ofNat_and.symm
theorem kJ_or (a b : Nat) : kJ a ||| kJ b = kJ ((a ||| b : Nat) : Int) := by
  rw [kJ_nat, kJ_nat, kJ_nat (a ||| b)]
  apply Int64.toBitVec_inj.mp
  show BitVec.ofNat 64 a ||| BitVec.ofNat 64 b = BitVec.ofNat 64 (a ||| b)
  exact BitVec.ofNat_or.symm
theorem kJ_bit {m c : Nat} (hm : m < 9223372036854775808) (hc : c < 64) : (kJ m >>> ((kI c).toInt64 &&& 63)) &&& kJ 1 = kJ (if m.testBit c = true then 1 else 0) := by
  rw [kJ_shr hm hc, show kJ 1 = kJ ((1 : Nat) : Int) from rfl, kJ_and, Nat.and_one_is_mod, bit_dec]
  have h2 : m / 2 ^ c % 2 = 0 ∨ m / 2 ^ c % 2 = 1 := by omega
  rcases h2 with h2 | h2
  · rw [h2]; rfl
  · rw [h2]; rfl
theorem kI_ndiv {a b : Nat} (ha : a < 2147483648) (h0 : 0 < b) (hb : b < 2147483648) : kI a / kI b = kI ((a / b : Nat) : Int) := by
  rw [kI_nN, kI_nN, kI_nN (a / b)]
  exact pk_div ha h0 hb
theorem kI_div {a b : Int} (h0 : 0 ≤ a) (h1 : a ≤ 2147483647) (h2 : 0 < b) (h3 : b ≤ 2147483647) : kI a / kI b = kI (a / b) := by
  obtain ⟨m, rfl⟩ := Int.eq_ofNat_of_zero_le h0
  obtain ⟨n, rfl⟩ := Int.eq_ofNat_of_zero_le (show 0 ≤ b by omega)
  rw [kI_ndiv (by omega) (by omega) (by omega)]
  rfl
theorem rem_int (a b : Int) : a - a / b * b = a % b := by
  rw [Int.emod_def, Int.mul_comm]
theorem kJ_div {a b : Int} (h0 : 0 ≤ a) (h1 : a ≤ 9223372036854775807) (h2 : 0 < b) (h3 : b ≤ 9223372036854775807) : kJ a / kJ b = kJ (a / b) := by
  obtain ⟨m, rfl⟩ := Int.eq_ofNat_of_zero_le h0
  obtain ⟨n, rfl⟩ := Int.eq_ofNat_of_zero_le (show 0 ≤ b by omega)
  rw [kJ_nat, kJ_nat, pk_lDiv (by omega) (by omega) (by omega), ← kJ_nat]
  rfl
/-- counting -/
def cnt (p : Nat → Bool) : Nat → Nat
  | 0 => 0
  | k + 1 => cnt p k + (if p k = true then 1 else 0)
def pop (m : Nat) : Nat := cnt m.testBit 12
theorem cnt_le (p : Nat → Bool) : ∀ n, cnt p n ≤ n
  | 0 => Nat.le_refl _
  | k + 1 => by
    have := cnt_le p k
    show cnt p k + (if p k = true then 1 else 0) ≤ k + 1
    split <;> omega
theorem cnt_congr {p q : Nat → Bool} : ∀ {n : Nat}, (∀ k, k < n → p k = q k) → cnt p n = cnt q n
  | 0, _ => rfl
  | k + 1, h => by
    show cnt p k + (if p k = true then 1 else 0) = cnt q k + (if q k = true then 1 else 0)
    rw [cnt_congr (fun j hj => h j (by omega)), h k (by omega)]
theorem pop_le (m : Nat) : pop m ≤ 12 := cnt_le _ _
/-- the bits below n of a set told by a truth -/
def bitsB (p : Nat → Bool) : Nat → Nat
  | 0 => 0
  | k + 1 => bitsB p k ||| (if p k = true then 2 ^ k else 0)
theorem bitsB_lt (p : Nat → Bool) : ∀ n, bitsB p n < 2 ^ n
  | 0 => by show 0 < 2 ^ 0; omega
  | k + 1 => by
    have h1 := bitsB_lt p k
    have h2 : 2 ^ (k + 1) = 2 ^ k * 2 := Nat.pow_succ 2 k
    show bitsB p k ||| (if p k = true then 2 ^ k else 0) < 2 ^ (k + 1)
    apply Nat.or_lt_two_pow
    · omega
    · split
      · omega
      · exact Nat.two_pow_pos _
theorem bitsB_bit (p : Nat → Bool) : ∀ n k, (bitsB p n).testBit k = (decide (k < n) && p k)
  | 0, k => by
    show (0 : Nat).testBit k = _
    rw [Nat.zero_testBit]
    simp
  | n + 1, k => by
    show (bitsB p n ||| (if p n = true then 2 ^ n else 0)).testBit k = _
    rw [Nat.testBit_or, bitsB_bit p n k]
    by_cases h : k = n
    · subst h
      cases hp : p k
      · simp
      · simp [Nat.testBit_two_pow_self]
    · have h3 : (if p n = true then 2 ^ n else 0 : Nat).testBit k = false := by
        split
        · exact Nat.testBit_two_pow_of_ne (fun q => h q.symm)
        · exact Nat.zero_testBit k
      rw [h3, Bool.or_false]
      have : (k < n) ↔ (k < n + 1) := by omega
      simp [this]
theorem bit_ext {a b : Nat} (h : ∀ k, a.testBit k = b.testBit k) : a = b := Nat.eq_of_testBit_eq h
theorem bit_hi {m n k : Nat} (h : m < 2 ^ n) (hk : n ≤ k) : m.testBit k = false := Nat.testBit_lt_two_pow (Nat.lt_of_lt_of_le h (Nat.pow_le_pow_right (by omega) hk))
theorem two_bit (a k : Nat) : (2 ^ a).testBit k = decide (a = k) := Nat.testBit_two_pow
/-! answers of calls that change the heap -/
def GI (d u : Nat) (as : List Value) (h : AH) (x : Int32) (P : AH → Prop) : Prop := ∃ h', Ret d u as h (some (.int x)) h' ∧ P h'
def GJ (d u : Nat) (as : List Value) (h : AH) (x : Int64) (P : AH → Prop) : Prop := ∃ h', Ret d u as h (some (.long x)) h' ∧ P h'
def GR (d u : Nat) (as : List Value) (h : AH) (x : Nat) (P : AH → Prop) : Prop := ∃ h', Ret d u as h (some (.ref x)) h' ∧ P h'
def GV (d u : Nat) (as : List Value) (h : AH) (P : AH → Prop) : Prop := ∃ h', Ret d u as h none h' ∧ P h'
theorem GI_of {d u : Nat} {as : List Value} {h : AH} {x : Int32} {P : AH → Prop} (H : Safe d u (0, entL u as, [], h) (fun v k => v = some (.int x) ∧ P k)) : GI (d + 1) u as h x P := by
  obtain ⟨w, k, hr, rfl, hp⟩ := call_iff.mpr H
  exact ⟨k, hr, hp⟩
theorem GJ_of {d u : Nat} {as : List Value} {h : AH} {x : Int64} {P : AH → Prop} (H : Safe d u (0, entL u as, [], h) (fun v k => v = some (.long x) ∧ P k)) : GJ (d + 1) u as h x P := by
  obtain ⟨w, k, hr, rfl, hp⟩ := call_iff.mpr H
  exact ⟨k, hr, hp⟩
theorem GR_of {d u : Nat} {as : List Value} {h : AH} {x : Nat} {P : AH → Prop} (H : Safe d u (0, entL u as, [], h) (fun v k => v = some (.ref x) ∧ P k)) : GR (d + 1) u as h x P := by
  obtain ⟨w, k, hr, rfl, hp⟩ := call_iff.mpr H
  exact ⟨k, hr, hp⟩
theorem GV_of {d u : Nat} {as : List Value} {h : AH} {P : AH → Prop} (H : Safe d u (0, entL u as, [], h) (fun v k => v = none ∧ P k)) : GV (d + 1) u as h P := by
  obtain ⟨w, k, hr, rfl, hp⟩ := call_iff.mpr H
  exact ⟨k, hr, hp⟩
theorem GI.use {d d' u : Nat} {as : List Value} {h : AH} {x : Int32} {P : AH → Prop} {K : Int32 → AH → Prop} (H : GI d u as h x P) (hd : d ≤ d') (hk : ∀ h', P h' → K x h') : CallI d' u as h K := by
  obtain ⟨h', hr, hp⟩ := H
  exact ⟨x, h', hr.up hd, hk h' hp⟩
theorem GJ.use {d d' u : Nat} {as : List Value} {h : AH} {x : Int64} {P : AH → Prop} {K : Int64 → AH → Prop} (H : GJ d u as h x P) (hd : d ≤ d') (hk : ∀ h', P h' → K x h') : CallJ d' u as h K := by
  obtain ⟨h', hr, hp⟩ := H
  exact ⟨x, h', hr.up hd, hk h' hp⟩
theorem GR.use {d d' u : Nat} {as : List Value} {h : AH} {x : Nat} {P : AH → Prop} {K : Nat → AH → Prop} (H : GR d u as h x P) (hd : d ≤ d') (hk : ∀ h', P h' → K x h') : CallR d' u as h K := by
  obtain ⟨h', hr, hp⟩ := H
  exact ⟨x, h', hr.up hd, hk h' hp⟩
theorem GV.use {d d' u : Nat} {as : List Value} {h : AH} {P : AH → Prop} {K : AH → Prop} (H : GV d u as h P) (hd : d ≤ d') (hk : ∀ h', P h' → K h') : CallV d' u as h K := by
  obtain ⟨h', hr, hp⟩ := H
  exact ⟨h', hr.up hd, hk h' hp⟩
theorem GI.mono {d d' u : Nat} {as : List Value} {h : AH} {x : Int32} {P P' : AH → Prop} (H : GI d u as h x P) (hd : d ≤ d') (hk : ∀ h', P h' → P' h') : GI d' u as h x P' := by
  obtain ⟨h', hr, hp⟩ := H
  exact ⟨h', hr.up hd, hk h' hp⟩
/-- equal but for ints at places I and longs at places J -/
def Fr (I J : Nat → Nat → Prop) (h h' : AH) : Prop := kdA h' = kdA h ∧ lnA h' = lnA h ∧ rvA h' = rvA h ∧ szA h' = szA h ∧ usA h' = usA h ∧ (∀ a k, ¬ I a k → ivA h' a k = ivA h a k) ∧ (∀ a k, ¬ J a k → jvA h' a k = jvA h a k)
theorem Fr_rfl (I J : Nat → Nat → Prop) (h : AH) : Fr I J h h := ⟨rfl, rfl, rfl, rfl, rfl, fun _ _ _ => rfl, fun _ _ _ => rfl⟩
theorem Fr.trans {I J : Nat → Nat → Prop} {h h1 h2 : AH} (e : Fr I J h h1) (f : Fr I J h1 h2) : Fr I J h h2 := ⟨f.1.trans e.1, f.2.1.trans e.2.1, f.2.2.1.trans e.2.2.1, f.2.2.2.1.trans e.2.2.2.1, f.2.2.2.2.1.trans e.2.2.2.2.1, fun a k q => (f.2.2.2.2.2.1 a k q).trans (e.2.2.2.2.2.1 a k q), fun a k q => (f.2.2.2.2.2.2 a k q).trans (e.2.2.2.2.2.2 a k q)⟩
theorem Fr.mono {I J I' J' : Nat → Nat → Prop} {h h1 : AH} (e : Fr I J h h1) (hi : ∀ a k, I a k → I' a k) (hj : ∀ a k, J a k → J' a k) : Fr I' J' h h1 := ⟨e.1, e.2.1, e.2.2.1, e.2.2.2.1, e.2.2.2.2.1, fun a k q => e.2.2.2.2.2.1 a k (fun w => q (hi a k w)), fun a k q => e.2.2.2.2.2.2 a k (fun w => q (hj a k w))⟩
theorem iv_stI (h : AH) (a k : Nat) (x : Int32) (b j : Nat) : ivA (stI h a k x) b j = if b = a ∧ j = k then x else ivA h b j := rfl
theorem jv_stJ (h : AH) (a k : Nat) (x : Int64) (b j : Nat) : jvA (stJ h a k x) b j = if b = a ∧ j = k then x else jvA h b j := rfl
theorem Fr.stI {I J : Nat → Nat → Prop} {h h1 : AH} (e : Fr I J h h1) {a k : Nat} (q : I a k) (x : Int32) : Fr I J h (stI h1 a k x) := by
  refine ⟨e.1, e.2.1, e.2.2.1, e.2.2.2.1, e.2.2.2.2.1, fun b j w => ?_, e.2.2.2.2.2.2⟩
  rw [iv_stI, if_neg (fun t => w (by rw [t.1, t.2]; exact q))]
  exact e.2.2.2.2.2.1 b j w
theorem Fr.stJ {I J : Nat → Nat → Prop} {h h1 : AH} (e : Fr I J h h1) {a k : Nat} (q : J a k) (x : Int64) : Fr I J h (stJ h1 a k x) := by
  refine ⟨e.1, e.2.1, e.2.2.1, e.2.2.2.1, e.2.2.2.2.1, e.2.2.2.2.2.1, fun b j w => ?_⟩
  rw [jv_stJ, if_neg (fun t => w (by rw [t.1, t.2]; exact q))]
  exact e.2.2.2.2.2.2 b j w
theorem Fr.fix {I J : Nat → Nat → Prop} {h h1 : AH} (e : Fr I J h h1) (F : Fix h) : Fix h1 := by
  unfold Fix at *
  rw [e.1, e.2.1, e.2.2.1, e.2.2.2.1]
  exact F
