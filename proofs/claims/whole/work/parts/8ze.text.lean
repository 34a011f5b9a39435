/-! the strings outside, and the words of a text -/
def keyL : List (List Nat) := [[115, 104, 101, 101, 116], [114, 111, 119], [104, 97, 110, 100], [104, 97, 98, 105, 116], [100, 114, 97, 119, 110], [108, 97, 115, 116], [109, 97, 121], [111, 100, 100, 115], [99, 101, 108, 108], [107, 105, 110, 100], [110, 101, 97, 114], [108, 101, 102, 116], [102, 97, 114], [97, 110, 100], [111, 114], [110, 111, 116]]
def strK : List Nat := 32 :: (keyL.map (fun w => w ++ [32])).flatten
def strS : List Nat := [59, 58, 43, 45, 42, 40, 41, 91, 93, 61, 60, 62]
def strW : List Nat := [115, 104, 101, 101, 116, 114, 111, 119, 32, 32, 104, 97, 110, 100, 32, 104, 97, 98, 105, 116, 100, 114, 97, 119, 110, 108, 97, 115, 116, 32, 109, 97, 121, 32, 32, 111, 100, 100, 115, 32, 111, 114, 32, 32, 32, 97, 110, 100, 32, 32, 110, 111, 116, 32, 32, 99, 101, 108, 108, 32, 107, 105, 110, 100, 32, 110, 101, 97, 114, 32, 108, 101, 102, 116, 32, 102, 97, 114, 32, 32]
def strL (i : Nat) : List Nat := if i = 0 then strK else if i = 1 then strS else strW
theorem str_len : strK.length = 77 ∧ strS.length = 12 ∧ strW.length = 80 := by decide +kernel
theorem strL_len {i : Nat} : (strL i).length ≤ 80 := by
  have := str_len
  unfold strL
  split
  · omega
  · split <;> omega
theorem strL_b (i k : Nat) : (strL i).getD k 0 < 128 := by
  have a : ∀ l : List Nat, (∀ x ∈ l, x < 128) → l.getD k 0 < 128 := fun l hl => by
    by_cases q : k < l.length
    · rw [List.getD_eq_getElem?_getD, List.getElem?_eq_getElem q]
      exact hl _ (List.getElem_mem q)
    · rw [List.getD_eq_getElem?_getD, List.getElem?_eq_none (by omega)]
      decide
  unfold strL
  split
  · exact a _ (by decide +kernel)
  · split
    · exact a _ (by decide +kernel)
    · exact a _ (by decide +kernel)
def OX (h : AH) : Prop := ivA h 1000009 1 = kI 1 ∧ ∀ i, i < 3 → kdA h (1000001 + i) = 13 ∧ rvA h (1000001 + i) 0 = 1000005 + i ∧ ivA h (1000001 + i) 1 = kI 0 ∧ kdA h (1000005 + i) = 42 ∧ lnA h (1000005 + i) = (strL i).length ∧ ∀ k, k < (strL i).length → ivA h (1000005 + i) k = kI ((strL i).getD k 0 : Nat)
theorem chr_b : ∀ c : Nat, c < 128 → (((kI (c : Int)) &&& (kI 255)).toUInt32 % 65536).toInt32 = kI (c : Int) := by decide +kernel
theorem St_isLatin1_c {h : AH} (O : OX h) {i d : Nat} (hi : i < 3) (hd : 1 ≤ d) {K : Int32 → AH → Prop} : CallI d m_St_isLatin1 [.ref (1000001 + i)] h K ↔ K (kI 1) h := by
  have o := O.2 i hi
  refine Ret.I (d := 1) (ret_of (s_St_isLatin1_0 ?_)) hd
  rw [O.1, if_neg (by decide), o.1, o.2.2.1, if_neg (by decide)]
  exact ⟨rfl, by decide, rfl, rfl⟩
theorem St_coder_c {h : AH} (O : OX h) {i d : Nat} (hi : i < 3) (hd : 1 ≤ d) {K : Int32 → AH → Prop} : CallI d m_St_coder [.ref (1000001 + i)] h K ↔ K (kI 0) h := by
  have o := O.2 i hi
  refine Ret.I (d := 1) (ret_of (s_St_coder_0 ?_)) hd
  rw [O.1, if_neg (by decide), o.1, o.2.2.1]
  exact ⟨rfl, by decide, rfl, rfl⟩
theorem St_length_c {h : AH} (O : OX h) {i d : Nat} (hi : i < 3) (hd : 2 ≤ d) {K : Int32 → AH → Prop} : CallI d m_St_length [.ref (1000001 + i)] h K ↔ K (kI (((strL i).length : Nat) : Int)) h := by
  have o := O.2 i hi
  refine Ret.I (d := 2) (ret_of (s_St_length_0 ?_)) hd
  rw [o.1, o.2.1, o.2.2.2.1, St_coder_c O hi (by omega), o.2.2.2.2.1]
  refine ⟨rfl, rfl, rfl, ?_, rfl⟩
  have : ∀ n : Nat, n < 81 → kI (n : Int) >>> (kI 0 &&& 31) = kI (n : Int) := by decide +kernel
  have l := strL_len (i := i)
  rw [this _ (by omega)]
theorem Pr_checkIndex_c {h : AH} {k n r d : Nat} (hk : k < n) (hn : n < 2147483648) (hd : 1 ≤ d) {K : Int32 → AH → Prop} : CallI d m_Pr_checkIndex [.int (kI k), .int (kI n), .ref r] h K ↔ K (kI k) h := by
  refine Ret.I (d := 1) (ret_of (s_Pr_checkIndex_0 ?_)) hd
  rw [if_neg (by rw [decide_eq_true_eq, z0, kI_lt (by omega) (by omega) (by omega) (by omega)]; omega), if_pos (by rw [decide_eq_true_eq, kI_lt (by omega) (by omega) (by omega) (by omega)]; omega)]
  exact ⟨rfl, rfl⟩
theorem St_charAt_c {h : AH} (O : OX h) {i k d : Nat} (hi : i < 3) (hk : k < (strL i).length) (hd : 4 ≤ d) {K : Int32 → AH → Prop} : CallI d m_St_charAt [.ref (1000001 + i), .int (kI k)] h K ↔ K (kI (((strL i).getD k 0 : Nat) : Int)) h := by
  have o := O.2 i hi
  have l := strL_len (i := i)
  have cb := strL_b i k
  have s1 : Ret 3 m_S1_charAt [.ref (1000005 + i), .int (kI k)] h (some (.int (kI (((strL i).getD k 0 : Nat) : Int)))) h := by
    refine ret_of (s_S1_charAt_0 ?_)
    rw [o.2.2.2.1, o.2.2.2.2.1]
    refine ⟨rfl, ?_⟩
    have ck : Ret 2 m_St_checkIndex [.int (kI k), .int (kI ((strL i).length : Nat))] h none h := by
      refine ret_of (s_St_checkIndex_0 ?_)
      rw [Pr_checkIndex_c hk (by omega) (by omega)]
      exact ⟨rfl, rfl⟩
    rw [Ret.V ck (by omega), o.2.2.2.1, o.2.2.2.2.1, ix_kI (by omega), o.2.2.2.2.2 k hk, chr_b _ cb]
    exact ⟨rfl, inB_kI (by omega) (by omega), inB_kI (by omega) (by omega), rfl, rfl⟩
  refine Ret.I (d := 4) (ret_of (s_St_charAt_0 ?_)) hd
  rw [o.1, St_isLatin1_c O hi (by omega), if_neg (by decide), o.1, o.2.1, Ret.I s1 (by omega)]
  exact ⟨rfl, rfl, inB_kI (by omega) (by omega), rfl, rfl⟩
/-! words -/
def wdL (tp : Nat → Nat) (a e : Nat) : List Nat := (List.range (e - a)).map (fun i => tp (a + i))
theorem wd_eq {tp : Nat → Nat} {a e : Nat} {l : List Nat} : l = wdL tp a e ↔ e - a = l.length ∧ ∀ i, i < l.length → tp (a + i) = l.getD i 0 := by
  unfold wdL
  constructor
  · intro h
    have hl : l.length = e - a := by rw [h]; simp
    refine ⟨hl.symm, fun i hi => ?_⟩
    rw [h, List.getD_eq_getElem?_getD, List.getElem?_map, List.getElem?_range (by omega)]
    rfl
  · rintro ⟨h1, h2⟩
    refine List.ext_getElem (by simp [h1]) (fun i hi _ => ?_)
    have := h2 i hi
    rw [List.getD_eq_getElem?_getD, List.getElem?_eq_getElem hi] at this
    simp only [List.getElem_map, List.getElem_range]
    exact this.symm
def kyH (w : List Nat) : List (List Nat) → Nat → Nat
  | [], _ => 22
  | k :: r, j => if k = w then j else kyH w r (j + 1)
def keyF (tp : Nat → Nat) (a e : Nat) : Nat := kyH (wdL tp a e) keyL 0
def keyN (j : Nat) : Nat := (keyL.getD j []).length
def keyO : Nat → Nat
  | 0 => 1
  | j + 1 => keyO j + keyN j + 1
theorem key_str : ∀ j : Nat, j < 16 → keyO j + keyN j < 77 ∧ keyN j < 6 ∧ (strL 0).getD (keyO j + keyN j) 0 = 32 ∧ ∀ i : Nat, i < 6 → i < keyN j → (strL 0).getD (keyO j + i) 0 = (keyL.getD j []).getD i 0 ∧ (keyL.getD j []).getD i 0 ≠ 32 := by decide +kernel
theorem key_end : keyO 16 = 77 := by decide +kernel
theorem key_drop : ∀ j : Nat, j < 16 → keyL.drop j = keyL.getD j [] :: keyL.drop (j + 1) := by decide +kernel
def TR (tp : Nat → Nat) (n : Nat) (h : AH) : Prop := (ivA h 88 8 = kI n) ∧ (n ≤ 900) ∧ (∀ k, k < n → ivA h 91 k = kI (tp k)) ∧ (∀ k, k < n → tp k < 256)
theorem TR.i {tp : Nat → Nat} {n : Nat} {h : AH} (C : TR tp n h) : ivA h 88 8 = kI n := C.1
theorem TR.le {tp : Nat → Nat} {n : Nat} {h : AH} (C : TR tp n h) : n ≤ 900 := C.2.1
theorem TR.v {tp : Nat → Nat} {n : Nat} {h : AH} (C : TR tp n h) : ∀ k, k < n → ivA h 91 k = kI (tp k) := C.2.2.1
theorem TR.b {tp : Nat → Nat} {n : Nat} {h : AH} (C : TR tp n h) : ∀ k, k < n → tp k < 256 := C.2.2.2
theorem M_keyAt_c {tp : Nat → Nat} {n a e d : Nat} {h : AH} (F : Fix h) (O : OX h) (R : TR tp n h) (i6 : ivA h 88 6 = kI a) (i7 : ivA h 88 7 = kI e) (ae : a ≤ e) (en : e ≤ n) (hd : 5 ≤ d) {K : Int32 → AH → Prop} : CallI d m_M_keyAt [.ref 88] h K ↔ K (kI (keyF tp a e : Nat)) h := by
  have le := R.le
  have kd := (O.2 0 (by omega)).1
  have l0 : (strL 0).length = 77 := str_len.1
  refine Ret.I (d := 5) (ret_of (s_M_keyAt_0 ?_)) hd
  suffices H : ∀ j : Nat, j ≤ 16 → Safe 4 m_M_keyAt (4, [.ref 88, .int (kI j), .int (kI (keyO j : Nat)), unV], [], h) (fun v k => v = some (.int (kI (kyH (wdL tp a e) (keyL.drop j) j : Nat))) ∧ k = h) by
    exact H 0 (by omega)
  refine down_ind 16 ?_ ?_
  · refine s_M_keyAt_4 ?_
    rw [kd, St_length_c O (i := 0) (by omega) (by omega), l0, key_end, if_pos (by decide)]
    exact ⟨rfl, rfl, rfl⟩
  · intro j hj ih
    have ks := key_str j hj
    obtain ⟨w, hw⟩ : ∃ w, w = keyL.getD j [] := ⟨_, rfl⟩
    have kn : keyN j = w.length := by rw [hw]; rfl
    rw [← hw] at ks
    rw [key_drop j hj, ← hw]
    show Safe 4 m_M_keyAt _ (fun v k => v = some (.int (kI ((if w = wdL tp a e then j else kyH (wdL tp a e) (keyL.drop (j + 1)) (j + 1) : Nat) : Int))) ∧ k = h)
    have chr : ∀ i, i ≤ keyN j → ∀ {K : Int32 → AH → Prop}, CallI 4 m_St_charAt [.ref 1000001, .int (kI ((keyO j : Nat) : Int) + kI (i : Int))] h K ↔ K (kI (((strL 0).getD (keyO j + i) 0 : Nat) : Int)) h := fun i hi K => by
      rw [kI_add]
      exact St_charAt_c O (i := 0) (k := keyO j + i) (by omega) (by omega) (by omega)
    refine s_M_keyAt_4 ?_
    rw [kd, St_length_c O (i := 0) (by omega) (by omega), l0, if_neg (by rw [decide_eq_true_eq, kI_le (by omega) (by omega) (by omega) (by omega)]; omega)]
    refine ⟨rfl, ?_⟩
    -- the skipping of a word
    have skip : w ≠ wdL tp a e → Safe 4 m_M_keyAt (97, [.ref 88, .int (kI j), .int (kI (keyO j : Nat)), unV], [], h) (fun v k => v = some (.int (kI ((if w = wdL tp a e then j else kyH (wdL tp a e) (keyL.drop (j + 1)) (j + 1) : Nat) : Int))) ∧ k = h) := fun ne => by
      rw [if_neg ne]
      suffices H : ∀ i, i ≤ keyN j → Safe 4 m_M_keyAt (97, [.ref 88, .int (kI j), .int (kI ((keyO j + i : Nat) : Int)), unV], [], h) (fun v k => v = some (.int (kI (kyH (wdL tp a e) (keyL.drop (j + 1)) (j + 1) : Nat))) ∧ k = h) by
        exact H 0 (by omega)
      refine down_ind (keyN j) ?_ ?_
      · refine s_M_keyAt_97 ?_
        rw [kd, St_charAt_c O (i := 0) (by omega) (by omega) (by omega), ks.2.2.1, if_pos (by decide), kI_add, kI_add]
        exact ⟨rfl, ih⟩
      · intro i hi ihi
        have ki := ks.2.2.2 i (by omega) hi
        have kb := strL_b 0 (keyO j + i)
        refine s_M_keyAt_97 ?_
        rw [kd, St_charAt_c O (i := 0) (by omega) (by omega) (by omega), if_neg (by rw [decide_eq_true_eq, kI_inj (by omega) (by omega) (by omega) (by omega)]; omega), kI_add]
        exact ⟨rfl, ihi⟩
    -- behind the comparing
    have s69 : ∀ i, i ≤ keyN j → a + i ≤ e → (∀ k, k < i → tp (a + k) = w.getD k 0) → (i = keyN j ∨ a + i = e ∨ tp (a + i) ≠ w.getD i 0) → Safe 4 m_M_keyAt (69, [.ref 88, .int (kI j), .int (kI (keyO j : Nat)), .int (kI i)], [], h) (fun v k => v = some (.int (kI ((if w = wdL tp a e then j else kyH (wdL tp a e) (keyL.drop (j + 1)) (j + 1) : Nat) : Int))) ∧ k = h) := fun i hi hie pre why => by
      refine s_M_keyAt_69 ?_
      rw [kd, chr i hi]
      refine ⟨rfl, ?_⟩
      have kb := strL_b 0 (keyO j + i)
      by_cases q : i = keyN j
      · rw [q, ks.2.2.1, if_neg (by decide), kd_88 F, i6, i7, kI_add]
        refine ⟨rfl, rfl, ?_⟩
        by_cases q2 : a + keyN j = e
        · rw [if_neg (by rw [Bool.not_eq_true', decide_eq_false_iff_not, kI_inj (by omega) (by omega) (by omega) (by omega)]; omega), if_pos (wd_eq.mpr ⟨by omega, fun k hk => pre k (by omega)⟩)]
          exact ⟨rfl, rfl⟩
        · rw [if_pos (by rw [Bool.not_eq_true', decide_eq_false_iff_not, kI_inj (by omega) (by omega) (by omega) (by omega)]; omega)]
          exact skip (fun z => by have := (wd_eq.mp z).1; omega)
      · have ki := ks.2.2.2 i (by omega) (by omega)
        rw [if_pos (by rw [Bool.not_eq_true', decide_eq_false_iff_not, kI_inj (by omega) (by omega) (by omega) (by omega)]; omega)]
        refine skip (fun z => ?_)
        have z' := wd_eq.mp z
        rcases why with y | y | y
        · exact q y
        · omega
        · exact y (z'.2 i (by omega))
    suffices H : ∀ i, i ≤ keyN j → a + i ≤ e → (∀ k, k < i → tp (a + k) = w.getD k 0) → Safe 4 m_M_keyAt (15, [.ref 88, .int (kI j), .int (kI (keyO j : Nat)), .int (kI i)], [], h) (fun v k => v = some (.int (kI ((if w = wdL tp a e then j else kyH (wdL tp a e) (keyL.drop (j + 1)) (j + 1) : Nat) : Int))) ∧ k = h) by
      exact H 0 (by omega) (by omega) (fun k hk => by omega)
    refine down_ind (keyN j) ?_ ?_
    · intro hie pre
      refine s_M_keyAt_15 ?_
      rw [kd, chr _ (Nat.le_refl _), ks.2.2.1, if_pos (by decide)]
      exact ⟨rfl, s69 _ (Nat.le_refl _) hie pre (Or.inl rfl)⟩
    · intro i hi ihi hie pre
      have ki := ks.2.2.2 i (by omega) hi
      have kb := strL_b 0 (keyO j + i)
      refine s_M_keyAt_15 ?_
      rw [kd, chr i (by omega), if_neg (by rw [decide_eq_true_eq, kI_inj (by omega) (by omega) (by omega) (by omega)]; omega), kd_88 F, i6, i7, kI_add]
      refine ⟨rfl, rfl, rfl, ?_⟩
      by_cases q : e ≤ a + i
      · rw [if_pos (by rw [decide_eq_true_eq, kI_le (by omega) (by omega) (by omega) (by omega)]; omega)]
        exact s69 i (by omega) hie pre (Or.inr (Or.inl (by omega)))
      · have tb := R.b (a + i) (by omega)
        have ei : ix (kI ((a : Int) + i)) = a + i := by
          rw [show (a : Int) + i = ((a + i : Nat) : Int) by omega]
          exact ix_kI (by omega)
        have eb : inB (kI ((a : Int) + i)) 900 = true := inB_lit (by omega) (by omega) (by omega)
        rw [if_neg (by rw [decide_eq_true_eq, kI_le (by omega) (by omega) (by omega) (by omega)]; omega), rv_88_3 F, kd_91 F, ln_91 F, ei, eb, R.v _ (by omega), kd, chr i (by omega), ki.1]
        refine ⟨rfl, rfl, rfl, rfl, rfl, ?_⟩
        rw [ki.1] at kb
        by_cases q2 : tp (a + i) = w.getD i 0
        · rw [if_neg (by rw [q2]; simp), kI_add]
          refine ihi (by omega) (fun k hk => ?_)
          by_cases z : k = i
          · rw [z]; exact q2
          · exact pre k (by omega)
        · rw [if_pos (by rw [Bool.not_eq_true', decide_eq_false_iff_not, kI_inj (by omega) (by omega) (by omega) (by omega)]; omega)]
          exact s69 i (by omega) hie pre (Or.inr (Or.inr q2))
