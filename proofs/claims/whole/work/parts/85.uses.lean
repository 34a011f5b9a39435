/-! which words a law looks at; how many neighbours -/
theorem lstp_congr {w w' : Nat → Int} {c : Nat} (H : 1000 ≤ c → c < 3000 → w (c - 1000) = w' (c - 1000)) (st : List Int) : lstp w c st = lstp w' c st := by
  unfold lstp
  by_cases h1 : c < 1000
  · rw [if_pos h1, if_pos h1]
  · rw [if_neg h1, if_neg h1]
    by_cases h2 : c < 3000
    · rw [if_pos h2, if_pos h2, H (by omega) h2]
    · rw [if_neg h2, if_neg h2]
theorem runC_congr {w w' : Nat → Int} : ∀ (code : List Nat) (st : List Int), (∀ c ∈ code, 1000 ≤ c → c < 3000 → w (c - 1000) = w' (c - 1000)) → runC w code st = runC w' code st
  | [], _, _ => rfl
  | c :: r, st, H => by
    show runC w r (lstp w c st) = runC w' r (lstp w' c st)
    rw [lstp_congr (H c (by simp)) st]
    exact runC_congr r _ (fun d hd => H d (by simp [hd]))
theorem tyR_mem : ∀ {code : List Nat} {t t' : List Bool}, tyR code t = some t' → ∀ c ∈ code, c < 1008 ∨ (3000 ≤ c ∧ c ≤ 3008)
  | [], _, _, _, c, hc => by simp at hc
  | d :: r, t, t', e, c, hc => by
    unfold tyR at e
    cases e1 : ty1 d t with
    | none => rw [e1] at e; cases e
    | some t1 =>
      rw [e1] at e
      rcases List.mem_cons.mp hc with q | q
      · rw [q]; exact ty_kind e1
      · exact tyR_mem e c q
theorem holdF_congr {s : ST} (ws : WFS s) {hd hb c l l' : Nat} {n n' lf lf' : Int} (h2 : usesF s 2 = true → n = n') (h3 : usesF s 3 = true → lf = lf') (h6 : (usesF s 6 = true ∨ usesF s 7 = true) → l = l') : holdF s hd hb c n lf l = holdF s hd hb c n' lf' l' := by
  unfold holdF
  by_cases q : sM s = []
  · rw [q]
    rfl
  · have hty : tyR (sM s) [] = some [true] := by
      rcases ws.2.2.2.2.2.2.2.2.1 with e | e
      · exact absurd e q
      · exact e
    have e : evl (wdN s hd hb c n lf l) (sM s) = evl (wdN s hd hb c n' lf' l') (sM s) := by
      unfold evl
      rw [runC_congr (sM s) [] (fun d hd' h1 _ => ?_)]
      have hk := tyR_mem hty d hd'
      have hu : ∀ k, d = 1000 + k → usesF s k = true := fun k ek => by
        unfold usesF
        rw [List.contains_iff_mem, ← ek]
        exact hd'
      obtain ⟨k, rfl⟩ : ∃ k, d = 1000 + k := ⟨d - 1000, by omega⟩
      rw [show 1000 + k - 1000 = k by omega]
      have ku := hu k rfl
      have e : k = 0 ∨ k = 1 ∨ k = 2 ∨ k = 3 ∨ k = 4 ∨ k = 5 ∨ k = 6 ∨ k = 7 := by omega
      unfold wdN
      rcases e with rfl | rfl | rfl | rfl | rfl | rfl | rfl | rfl
      · rfl
      · rfl
      · show n = n'; exact h2 ku
      · show lf = lf'; exact h3 ku
      · rfl
      · rfl
      · rw [h6 (Or.inl ku)]; rfl
      · rw [h6 (Or.inr ku)]; rfl
    rw [e]
theorem cnt_or4 {p a b c d : Nat → Bool} (H : ∀ k, p k = true → a k = true ∨ b k = true ∨ c k = true ∨ d k = true) : ∀ n, cnt p n ≤ cnt a n + cnt b n + cnt c n + cnt d n
  | 0 => Nat.zero_le _
  | k + 1 => by
    have ih := cnt_or4 H k
    rw [cnt_s, cnt_s, cnt_s, cnt_s, cnt_s]
    by_cases q : p k = true
    · rw [if_pos q]
      rcases H k q with w | w | w | w
      · rw [if_pos w]; omega
      · rw [if_pos w]; omega
      · rw [if_pos w]; omega
      · rw [if_pos w]; omega
    · rw [if_neg q]; omega
theorem cnt_one (x : Nat) : ∀ n, cnt (fun k => k == x) n ≤ (if x < n then 1 else 0)
  | 0 => Nat.zero_le _
  | k + 1 => by
    have ih := cnt_one x k
    rw [cnt_s]
    by_cases q : k = x
    · rw [if_pos (by simpa using q), if_pos (by omega)]
      rw [if_neg (by omega)] at ih
      omega
    · rw [if_neg (by simpa using q)]
      by_cases q2 : x < k
      · rw [if_pos q2] at ih; rw [if_pos (by omega)]; omega
      · rw [if_neg q2] at ih; omega
theorem far_1 {s : ST} (w : WFS s) {c k : Nat} (hk : k ≠ 12) (h : farF s c k = 1) : k = c + 1 ∨ k + 1 = c ∨ k = c + sW s ∨ k + sW s = c := by
  have w1 := w.2.1
  unfold farF at h
  rw [if_neg hk] at h
  unfold dist at h
  have e1 := Nat.div_add_mod c (sW s)
  have e2 := Nat.div_add_mod k (sW s)
  have r1 := Nat.mod_lt c w1
  have r2 := Nat.mod_lt k w1
  generalize c / sW s = a at *
  generalize k / sW s = b at *
  generalize c % sW s = x at *
  generalize k % sW s = z at *
  generalize sW s = W at *
  have e : (a = b ∧ (z = x + 1 ∨ x = z + 1)) ∨ (x = z ∧ (b = a + 1 ∨ a = b + 1)) := by omega
  rcases e with ⟨rfl, q | q⟩ | ⟨rfl, q | q⟩
  · left; omega
  · right; left; omega
  · right; right; left
    subst q
    rw [Nat.mul_add, Nat.mul_one] at e2
    omega
  · right; right; right
    subst q
    rw [Nat.mul_add, Nat.mul_one] at e1
    omega
theorem nearF_le {s : ST} (w : WFS s) (c m : Nat) : nearF s c m ≤ 4 := by
  have n2 := w.n12
  have h1 : nearF s c m ≤ cnt (fun k => decide (k < sN s) && (m.testBit k && farF s c k == 1)) (sN s) := by
    unfold nearF
    refine Nat.le_of_eq (cnt_congr (fun k hk => ?_))
    simp [hk]
  have h2 := cnt_or4 (p := fun k => decide (k < sN s) && (m.testBit k && farF s c k == 1)) (a := fun k => k == c + 1) (b := fun k => k == c - 1) (c := fun k => k == c + sW s) (d := fun k => k == c - sW s) (fun k hk => by
    simp only [Bool.and_eq_true, decide_eq_true_eq, beq_iff_eq] at hk
    have := far_1 w (show k ≠ 12 by omega) hk.2.2
    simp only [beq_iff_eq]
    omega) (sN s)
  have a1 := cnt_one (c + 1) (sN s)
  have a2 := cnt_one (c - 1) (sN s)
  have a3 := cnt_one (c + sW s) (sN s)
  have a4 := cnt_one (c - sW s) (sN s)
  have b1 : cnt (fun k => k == c + 1) (sN s) ≤ 1 := by split at a1 <;> omega
  have b2 : cnt (fun k => k == c - 1) (sN s) ≤ 1 := by split at a2 <;> omega
  have b3 : cnt (fun k => k == c + sW s) (sN s) ≤ 1 := by split at a3 <;> omega
  have b4 : cnt (fun k => k == c - sW s) (sN s) ≤ 1 := by split at a4 <;> omega
  omega
/-- the bits of nearness -/
def nrB (s : ST) (m b : Nat) : Bool := decide (b % 12 < sN s) && !m.testBit (b % 12) && (b / 12 == (if usesF s 2 = true then nearF s (b % 12) m else 0))
def nrF (s : ST) (m : Nat) : Nat := bitsB (nrB s m) 60
theorem nrF_lt (s : ST) (m : Nat) : nrF s m < 2 ^ 60 := bitsB_lt _ _
/-- what a hand may draw -/
def mvF (s : ST) (hd hb m l : Nat) : Nat := bitsB (fun c => mayF s hd hb c m l) (sN s)
theorem mvF_bit (s : ST) (hd hb m l c : Nat) : (mvF s hd hb m l).testBit c = (decide (c < sN s) && mayF s hd hb c m l) := bitsB_bit _ _ _
theorem mvF_lt {s : ST} (w : WFS s) (hd hb m l : Nat) : mvF s hd hb m l < 4096 := Nat.lt_of_lt_of_le (bitsB_lt _ _) (Nat.pow_le_pow_right (n := 2) (by omega) w.n12)
theorem kJ_shl1 {c : Nat} (hc : c < 62) : kJ 1 <<< ((kI c).toInt64 &&& 63) = kJ ((2 ^ c : Nat) : Int) := by
  have h : ∀ c : Nat, c < 62 → kJ 1 <<< ((kI c).toInt64 &&& 63) = kJ ((2 ^ c : Nat) : Int) := by decide +kernel
  exact h c hc
theorem kJ_shl1' {c : Nat} (hc : c < 62) : kJ 1 <<< (kJ (c : Int) &&& 63) = kJ ((2 ^ c : Nat) : Int) := by
  have h : ∀ c : Nat, c < 62 → kJ 1 <<< (kJ (c : Int) &&& 63) = kJ ((2 ^ c : Nat) : Int) := by decide +kernel
  exact h c hc
theorem Sh_nearness_c {T : Nat → Nat} {s : ST} {p d : Nat} {h : AH} (C : XS T s p h) (hd : 2 ≤ d) {m : Nat} (hm : m < 2 ^ sN s) {K : Int64 → AH → Prop} : CallJ d m_Sh_nearness [.ref p, .int (kI m)] h K ↔ K (kJ (nrF s m : Nat)) h := by
  have n2 := C.wf.n12
  have hm12 : m < 4096 := Nat.lt_of_lt_of_le hm (Nat.pow_le_pow_right (n := 2) (by omega) n2)
  refine Ret.J (d := 2) (ret_of (s_Sh_nearness_0 ?_)) hd
  by_cases qu : usesF s 2 = true
  · simp (disch := omega) only [C.k, C.i6, ix_lit, inB_lit, decide_true, Bool.true_or, Bool.or_true, true_and, and_true, kI_add, kI_sub, kI_mul, tn_add, Int.toNat_natCast, Int.reduceToNat, kI_le, kI_lt, kI_inj, decide_eq_true_eq, Bool.not_eq_true', decide_eq_false_iff_not, not_true_eq_false, not_false_eq_true, Classical.not_not, Bool.false_eq_true, if_true, if_false, z0, bI_k0, bI_k1, isB_b, isB_0, isB_1, kI_long, kd_stI, ln_stI, rv_stI, qu]
    suffices H : ∀ k, k ≤ sN s → ∀ x : Nat, (∀ b, x.testBit b = (decide (b < 60) && decide (b % 12 < k) && nrB s m b)) → Safe 1 m_Sh_nearness (22, [.ref p, .int (kI m), .long (kJ x), unV, .int (kI k)], [], h) (fun v k => v = some (.long (kJ (nrF s m : Nat))) ∧ k = h) by
      exact H 0 (by omega) 0 (fun b => by simp)
    refine down_ind (sN s) ?_ ?_
    · intro x hx
      refine s_Sh_nearness_22 ?_
      have e : x = nrF s m := bit_ext (fun b => by
        rw [hx b]
        unfold nrF
        rw [bitsB_bit]
        unfold nrB
        by_cases q : b % 12 < sN s <;> simp [q])
      simp (disch := omega) only [C.k, C.i2, ix_lit, inB_lit, decide_true, Bool.true_or, Bool.or_true, true_and, and_true, kI_add, kI_sub, kI_mul, tn_add, Int.toNat_natCast, Int.reduceToNat, kI_le, kI_lt, kI_inj, decide_eq_true_eq, Bool.not_eq_true', decide_eq_false_iff_not, not_true_eq_false, not_false_eq_true, Classical.not_not, Bool.false_eq_true, if_true, if_false, z0, bI_k0, bI_k1, isB_b, isB_0, isB_1, kI_long, kd_stI, ln_stI, rv_stI, Int.le_refl, e]
    · intro k hk ih x hx
      have z1 : ¬ (sN s : Int) ≤ (k : Int) := by omega
      refine s_Sh_nearness_22 ?_
      by_cases qb : m.testBit k = true
      · simp (disch := omega) only [C.k, C.i2, ix_lit, inB_lit, decide_true, Bool.true_or, Bool.or_true, true_and, and_true, kI_add, kI_sub, kI_mul, tn_add, Int.toNat_natCast, Int.reduceToNat, kI_le, kI_lt, kI_inj, decide_eq_true_eq, Bool.not_eq_true', decide_eq_false_iff_not, not_true_eq_false, not_false_eq_true, Classical.not_not, Bool.false_eq_true, if_true, if_false, z0, bI_k0, bI_k1, isB_b, isB_0, isB_1, kI_long, kd_stI, ln_stI, rv_stI, z1, kI_bit, qb]
        refine ih x (fun b => ?_)
        rw [hx b]
        by_cases q : b % 12 = k
        · unfold nrB
          rw [q, qb]
          simp
        · have : (b % 12 < k) ↔ (b % 12 < k + 1) := by omega
          simp [this]
      · have qb' : m.testBit k = false := by simpa using qb
        have l := nb_lt C.wf k
        have l2 : nbF s k &&& m < 4096 := and_lt (n := 12) l
        have nl := nearF_le C.wf k m
        have ec := C.c10 k hk
        simp (disch := omega) only [C.k, C.i2, C.k10, C.l10, ec, ix_lit, inB_lit, decide_true, Bool.true_or, Bool.or_true, true_and, and_true, kI_add, kI_sub, kI_mul, tn_add, Int.toNat_natCast, Int.reduceToNat, kI_le, kI_lt, kI_inj, decide_eq_true_eq, Bool.not_eq_true', decide_eq_false_iff_not, not_true_eq_false, not_false_eq_true, Classical.not_not, Bool.false_eq_true, if_true, if_false, z0, bI_k0, bI_k1, isB_b, isB_0, isB_1, kI_long, kd_stI, ln_stI, rv_stI, z1, kI_bit, qb', kI_and, In_bitCount_c, nb_near C.wf, Bool.true_eq_false]
        have es : kJ ((nearF s k m : Int) * 12 + k) = kJ ((12 * nearF s k m + k : Nat) : Int) := by congr 1; omega
        rw [es, kJ_shl1' (by omega), kJ_or]
        refine ih _ (fun b => ?_)
        rw [Nat.testBit_or, hx b, two_bit]
        by_cases q : b % 12 = k
        · have e0 : decide (b % 12 < k) = false := by simp; omega
          have e1 : decide (b % 12 < k + 1) = true := by simp; omega
          rw [e0, e1]
          unfold nrB
          rw [q, qb', if_pos qu]
          by_cases q2 : b / 12 = nearF s k m
          · have : 12 * nearF s k m + k = b := by omega
            have b60 : b < 60 := by omega
            simp [this, q2, hk, b60]
          · have : ¬ 12 * nearF s k m + k = b := by omega
            simp [this, q2]
        · have : (b % 12 < k) ↔ (b % 12 < k + 1) := by omega
          have n1 : ¬ 12 * nearF s k m + k = b := by omega
          simp [this, n1]
  · have qu' : usesF s 2 = false := by simpa using qu
    have p1 : 1 ≤ 2 ^ sN s := Nat.one_le_two_pow
    have tl := top_lt C.wf
    have e : dif (2 ^ sN s - 1) m = nrF s m := bit_ext (fun b => by
      rw [dif_bit, Nat.testBit_two_pow_sub_one]
      unfold nrF
      rw [bitsB_bit]
      unfold nrB
      rw [qu', if_neg (by simp)]
      by_cases q : b < 12
      · rw [Nat.mod_eq_of_lt q, Nat.div_eq_of_lt q]
        have : b < 60 := by omega
        simp [this]
      · have q2 : ¬ b < sN s := by omega
        have q3 : ¬ b / 12 = 0 := by omega
        simp [q2, q3])
    have dl : dif (2 ^ sN s - 1) m < 4096 := dif_lt (n := 12) tl
    rw [e] at dl
    simp (disch := omega) only [C.k, C.i6, C.i3, ix_lit, inB_lit, decide_true, Bool.true_or, Bool.or_true, true_and, and_true, kI_add, kI_sub, kI_mul, tn_add, Int.toNat_natCast, Int.reduceToNat, kI_le, kI_lt, kI_inj, decide_eq_true_eq, Bool.not_eq_true', decide_eq_false_iff_not, not_true_eq_false, not_false_eq_true, Classical.not_not, Bool.false_eq_true, if_true, if_false, z0, bI_k0, bI_k1, isB_b, isB_0, isB_1, kI_long, kd_stI, ln_stI, rv_stI, qu', kI_dif, e, Bool.true_eq_false]
