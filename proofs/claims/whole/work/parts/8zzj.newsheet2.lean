theorem FN.less {A A' : Nat → Prop} {h h' : AH} (e : FN A h h') (s : ∀ x, old h x → A x → A' x) : FN A' h h' := ⟨e.kl, e.sz, e.lt, e.us, fun a o n => e.iv a o (fun w => n (s a o w)), fun a o n => e.jv a o (fun w => n (s a o w)), fun a o n => e.rv a o (fun w => n (s a o w))⟩
theorem mx1 {R : Nat} (h : 1 ≤ R) (h2 : R < 1000) : (if kI 1 < kI (R : Int) then kI (R : Int) else kI 1) = kI R := by
  by_cases q : 1 < R
  · rw [if_pos (by rw [kI_lt (by omega) (by omega) (by omega) (by omega)]; omega)]
  · rw [if_neg (by rw [kI_lt (by omega) (by omega) (by omega) (by omega)]; omega)]
    congr 1
    omega
def ShN (p R W : Nat) (H L : Int) (r3 r6 r7 u : Nat) (h : AH) (h' : AH) : Prop := (FN (fun x => x = p) h h') ∧ (szA h' = szA h + 3) ∧ (usA h' = usA h + 8 + 2 * (R * W)) ∧ (ivA h' p 0 = kI R) ∧ (ivA h' p 1 = kI W) ∧ (ivA h' p 2 = kI (R * W : Nat)) ∧ (ivA h' p 3 = kI (2 ^ (R * W) - 1 : Nat)) ∧ (ivA h' p 4 = kI H) ∧ (ivA h' p 5 = kI L) ∧ (ivA h' p 6 = bI32 (u.testBit 2 = true)) ∧ (ivA h' p 7 = bI32 (u.testBit 3 = true)) ∧ (ivA h' p 8 = bI32 (u.testBit 6 = true ∨ u.testBit 7 = true)) ∧ (rvA h' p 9 = szA h + 2) ∧ (rvA h' p 10 = szA h + 3) ∧ (rvA h' p 11 = r6) ∧ (rvA h' p 12 = r7) ∧ (rvA h' p 13 = szA h + 1) ∧ (kdA h' (szA h + 2) = 20 ∧ lnA h' (szA h + 2) = R * W) ∧ (∀ k, k < R * W → ivA h' (szA h + 2) k = ivA h r3 k) ∧ (kdA h' (szA h + 3) = 20 ∧ lnA h' (szA h + 3) = R * W) ∧ (∀ k, k < R * W → ivA h' (szA h + 3) k = kI (nbW W (R * W) k : Nat)) ∧ (kdA h' (szA h + 1) = 20 ∧ lnA h' (szA h + 1) = 8)
theorem ShN.e {p R W : Nat} {H L : Int} {r3 r6 r7 u : Nat} {h : AH} {h' : AH} (C : ShN p R W H L r3 r6 r7 u h h') : FN (fun x => x = p) h h' := C.1
theorem ShN.sz {p R W : Nat} {H L : Int} {r3 r6 r7 u : Nat} {h : AH} {h' : AH} (C : ShN p R W H L r3 r6 r7 u h h') : szA h' = szA h + 3 := C.2.1
theorem ShN.us {p R W : Nat} {H L : Int} {r3 r6 r7 u : Nat} {h : AH} {h' : AH} (C : ShN p R W H L r3 r6 r7 u h h') : usA h' = usA h + 8 + 2 * (R * W) := C.2.2.1
theorem ShN.i0 {p R W : Nat} {H L : Int} {r3 r6 r7 u : Nat} {h : AH} {h' : AH} (C : ShN p R W H L r3 r6 r7 u h h') : ivA h' p 0 = kI R := C.2.2.2.1
theorem ShN.i1 {p R W : Nat} {H L : Int} {r3 r6 r7 u : Nat} {h : AH} {h' : AH} (C : ShN p R W H L r3 r6 r7 u h h') : ivA h' p 1 = kI W := C.2.2.2.2.1
theorem ShN.i2 {p R W : Nat} {H L : Int} {r3 r6 r7 u : Nat} {h : AH} {h' : AH} (C : ShN p R W H L r3 r6 r7 u h h') : ivA h' p 2 = kI (R * W : Nat) := C.2.2.2.2.2.1
theorem ShN.i3 {p R W : Nat} {H L : Int} {r3 r6 r7 u : Nat} {h : AH} {h' : AH} (C : ShN p R W H L r3 r6 r7 u h h') : ivA h' p 3 = kI (2 ^ (R * W) - 1 : Nat) := C.2.2.2.2.2.2.1
theorem ShN.i4 {p R W : Nat} {H L : Int} {r3 r6 r7 u : Nat} {h : AH} {h' : AH} (C : ShN p R W H L r3 r6 r7 u h h') : ivA h' p 4 = kI H := C.2.2.2.2.2.2.2.1
theorem ShN.i5 {p R W : Nat} {H L : Int} {r3 r6 r7 u : Nat} {h : AH} {h' : AH} (C : ShN p R W H L r3 r6 r7 u h h') : ivA h' p 5 = kI L := C.2.2.2.2.2.2.2.2.1
theorem ShN.i6 {p R W : Nat} {H L : Int} {r3 r6 r7 u : Nat} {h : AH} {h' : AH} (C : ShN p R W H L r3 r6 r7 u h h') : ivA h' p 6 = bI32 (u.testBit 2 = true) := C.2.2.2.2.2.2.2.2.2.1
theorem ShN.i7 {p R W : Nat} {H L : Int} {r3 r6 r7 u : Nat} {h : AH} {h' : AH} (C : ShN p R W H L r3 r6 r7 u h h') : ivA h' p 7 = bI32 (u.testBit 3 = true) := C.2.2.2.2.2.2.2.2.2.2.1
theorem ShN.i8 {p R W : Nat} {H L : Int} {r3 r6 r7 u : Nat} {h : AH} {h' : AH} (C : ShN p R W H L r3 r6 r7 u h h') : ivA h' p 8 = bI32 (u.testBit 6 = true ∨ u.testBit 7 = true) := C.2.2.2.2.2.2.2.2.2.2.2.1
theorem ShN.r9 {p R W : Nat} {H L : Int} {r3 r6 r7 u : Nat} {h : AH} {h' : AH} (C : ShN p R W H L r3 r6 r7 u h h') : rvA h' p 9 = szA h + 2 := C.2.2.2.2.2.2.2.2.2.2.2.2.1
theorem ShN.r10 {p R W : Nat} {H L : Int} {r3 r6 r7 u : Nat} {h : AH} {h' : AH} (C : ShN p R W H L r3 r6 r7 u h h') : rvA h' p 10 = szA h + 3 := C.2.2.2.2.2.2.2.2.2.2.2.2.2.1
theorem ShN.r11 {p R W : Nat} {H L : Int} {r3 r6 r7 u : Nat} {h : AH} {h' : AH} (C : ShN p R W H L r3 r6 r7 u h h') : rvA h' p 11 = r6 := C.2.2.2.2.2.2.2.2.2.2.2.2.2.2.1
theorem ShN.r12 {p R W : Nat} {H L : Int} {r3 r6 r7 u : Nat} {h : AH} {h' : AH} (C : ShN p R W H L r3 r6 r7 u h h') : rvA h' p 12 = r7 := C.2.2.2.2.2.2.2.2.2.2.2.2.2.2.2.1
theorem ShN.r13 {p R W : Nat} {H L : Int} {r3 r6 r7 u : Nat} {h : AH} {h' : AH} (C : ShN p R W H L r3 r6 r7 u h h') : rvA h' p 13 = szA h + 1 := C.2.2.2.2.2.2.2.2.2.2.2.2.2.2.2.2.1
theorem ShN.k9 {p R W : Nat} {H L : Int} {r3 r6 r7 u : Nat} {h : AH} {h' : AH} (C : ShN p R W H L r3 r6 r7 u h h') : kdA h' (szA h + 2) = 20 ∧ lnA h' (szA h + 2) = R * W := C.2.2.2.2.2.2.2.2.2.2.2.2.2.2.2.2.2.1
theorem ShN.c9 {p R W : Nat} {H L : Int} {r3 r6 r7 u : Nat} {h : AH} {h' : AH} (C : ShN p R W H L r3 r6 r7 u h h') : ∀ k, k < R * W → ivA h' (szA h + 2) k = ivA h r3 k := C.2.2.2.2.2.2.2.2.2.2.2.2.2.2.2.2.2.2.1
theorem ShN.k10 {p R W : Nat} {H L : Int} {r3 r6 r7 u : Nat} {h : AH} {h' : AH} (C : ShN p R W H L r3 r6 r7 u h h') : kdA h' (szA h + 3) = 20 ∧ lnA h' (szA h + 3) = R * W := C.2.2.2.2.2.2.2.2.2.2.2.2.2.2.2.2.2.2.2.1
theorem ShN.c10 {p R W : Nat} {H L : Int} {r3 r6 r7 u : Nat} {h : AH} {h' : AH} (C : ShN p R W H L r3 r6 r7 u h h') : ∀ k, k < R * W → ivA h' (szA h + 3) k = kI (nbW W (R * W) k : Nat) := C.2.2.2.2.2.2.2.2.2.2.2.2.2.2.2.2.2.2.2.2.1
theorem ShN.k13 {p R W : Nat} {H L : Int} {r3 r6 r7 u : Nat} {h : AH} {h' : AH} (C : ShN p R W H L r3 r6 r7 u h h') : kdA h' (szA h + 1) = 20 ∧ lnA h' (szA h + 1) = 8 := C.2.2.2.2.2.2.2.2.2.2.2.2.2.2.2.2.2.2.2.2.2
set_option maxHeartbeats 1000000 in
theorem Sh_new_g {p R W L3 r3 r6 r7 u : Nat} {H L : Int} {h : AH} (kp : kdA h p = 8) (p1 : 1 ≤ p) (p2 : p ≤ szA h) (hz : szA h < 990000) (r1 : 1 ≤ R) (w1 : 1 ≤ W) (rw12 : R * W ≤ 12) (k3 : kdA h r3 = 20) (l3 : lnA h r3 = L3) (n3 : R * W ≤ L3) (L3b : L3 < 1000000) (z3 : r3 ≤ szA h) (ne3 : r3 ≠ p) (may : (r6 = 0 ∧ u = 0) ∨ (r6 ≠ 0 ∧ r6 ≤ szA h ∧ r6 ≠ p ∧ kdA h r6 = 2 ∧ ivA h r6 2 = kI u)) (u8 : u < 256) : GV 2 m_Sh_new [.ref p, .int (kI R), .int (kI W), .ref r3, .int (kI H), .int (kI L), .ref r6, .ref r7] h (ShN p R W H L r3 r6 r7 u h) := by
  have R12 : R ≤ 12 := Nat.le_trans (Nat.le_mul_of_pos_right R w1) rw12
  have W12 : W ≤ 12 := Nat.le_trans (Nat.le_mul_of_pos_left W r1) rw12
  have N1 : 1 ≤ R * W := Nat.mul_pos r1 w1
  obtain ⟨N, hN⟩ : ∃ N, N = R * W := ⟨_, rfl⟩
  have pz : p ≠ szA h + 1 := by omega
  have stp : ∀ (g : AH) (k : Nat) (x : Int32), FN (fun x => x = p) h g → FN (fun x => x = p) h (stI g p k x) := fun g k x e => e.trans (Fr.fn (F1_st g p k x) (fun a j w => w.1) (fun _ _ w => w.elim))
  have str : ∀ (g : AH) (k x : Nat), FN (fun x => x = p) h g → FN (fun x => x = p) h (stR g p k x) := fun g k x e => e.trans (FN_stR rfl)
  refine GVo (s_Sh_new_0 ?_)
  have c8 : ix (kI 8) = 8 := rfl
  rw [c8, mx1 r1 (by omega), mx1 w1 (by omega)]
  obtain ⟨h1, h1e⟩ : ∃ h1, h1 = stR (nwA h 20 8) p 13 (szA h + 1) := ⟨_, rfl⟩
  rw [← h1e]
  have e1 : FN (fun x => x = p) h h1 := by rw [h1e]; exact str _ _ _ (FN_nw (by omega) 20 8)
  have kp0 : kdA (nwA h 20 8) p = 8 := by rw [kd_nw, if_neg pz]; exact kp
  have kp1 : kdA h1 p = 8 := by rw [h1e]; exact kp0
  have v0 : ivA (stI (stI h1 p 0 (kI R)) p 1 (kI W)) p 0 = kI R := by rw [iv_stI, if_neg (by omega), iv_stI, if_pos ⟨rfl, rfl⟩]
  have v1 : ivA (stI (stI h1 p 0 (kI R)) p 1 (kI W)) p 1 = kI W := by rw [iv_stI, if_pos ⟨rfl, rfl⟩]
  have vN : (if kI (R : Int) * kI (W : Int) < kI 12 then kI (R : Int) * kI (W : Int) else kI 12) = kI (N : Nat) := by
    rw [kI_mul, ← Int.natCast_mul, ← hN]
    by_cases q : N < 12
    · rw [if_pos (by rw [kI_lt (by omega) (by omega) (by omega) (by omega)]; omega)]
    · rw [if_neg (by rw [kI_lt (by omega) (by omega) (by omega) (by omega)]; omega)]
      congr 1
      omega
  rw [v0, v1, vN]
  simp only [kd_stI, kp1, kp0]
  obtain ⟨h4, h4e⟩ : ∃ h4, h4 = stI (stI (stI h1 p 0 (kI R)) p 1 (kI W)) p 2 (kI (N : Nat)) := ⟨_, rfl⟩
  rw [← h4e]
  have e4 : FN (fun x => x = p) h h4 := by rw [h4e]; exact stp _ _ _ (stp _ _ _ (stp _ _ _ e1))
  have kp4 : kdA h4 p = 8 := by rw [h4e]; exact kp1
  have i42 : ivA h4 p 2 = kI (N : Nat) := by rw [h4e, iv_stI, if_pos ⟨rfl, rfl⟩]
  refine ⟨by rw [Bool.not_eq_true', decide_eq_false_iff_not]; omega, rfl, rfl, rfl, rfl, rfl, rfl, rfl, ?_⟩
  refine s_Sh_new_48 ?_
  have sh : kI 1 <<< (kI (N : Int) &&& 31) - kI 1 = kI ((2 ^ N - 1 : Nat) : Int) := by
    have n3 : 1 ≤ 2 ^ N := Nat.one_le_two_pow
    rw [kI_shl1 (by omega), kI_sub, Int.natCast_sub n3]
    rfl
  rw [i42, sh]
  obtain ⟨h7, h7e⟩ : ∃ h7, h7 = stI (stI (stI h4 p 3 (kI ((2 ^ N - 1 : Nat) : Int))) p 4 (kI H)) p 5 (kI L) := ⟨_, rfl⟩
  rw [← h7e]
  have e7 : FN (fun x => x = p) h h7 := by rw [h7e]; exact stp _ _ _ (stp _ _ _ (stp _ _ _ e4))
  have kp7 : kdA h7 p = 8 := by rw [h7e]; exact kp4
  have i7 : ∀ k, k < 3 → ivA h7 p k = ivA h4 p k := fun k hk => by rw [h7e, iv_stI, if_neg (by omega), iv_stI, if_neg (by omega), iv_stI, if_neg (by omega)]
  have sz7 : szA h7 = szA h + 1 := by rw [h7e, h4e, h1e]; rfl
  have us7 : usA h7 = usA h + 8 := by rw [h7e, h4e, h1e]; rfl
  rw [i7 2 (by omega), i42]
  simp only [kd_stI, kp4, kp7]
  refine ⟨rfl, rfl, rfl, rfl, rfl, ?_⟩
  have o3 : old h r3 := Or.inl z3
  refine GR.use (Ar_copyOf_g (r0 := r3) (L := L3) (n := N) (by rw [(e7.kl r3 o3).1]; exact k3) (by rw [(e7.kl r3 o3).2]; exact l3) (by omega) (by omega) (by omega) (by omega)) (by omega) (fun h8 w8 => ?_)
  obtain ⟨e8, sz8, us8, kd8, ln8, iv8⟩ := w8
  rw [sz7] at sz8 kd8 ln8 iv8 ⊢
  have e8' : FN (fun x => x = p) h h8 := e7.trans (e8.mono (fun x w => w.elim))
  have op7 : old h7 p := Or.inl (by omega)
  have kp8 : kdA h8 p = 8 := by rw [(e8.kl p op7).1]; exact kp7
  have iv8p : ∀ k, ivA h8 p k = ivA h7 p k := fun k => e8.iv p op7 (fun w => w) k
  have rv8p : ∀ k, rvA h8 p k = rvA h7 p k := fun k => e8.rv p op7 (fun w => w) k
  obtain ⟨h9, h9e⟩ : ∃ h9, h9 = stR (stR (stR h8 p 9 (szA h + 1 + 1)) p 11 r6) p 12 r7 := ⟨_, rfl⟩
  rw [← h9e]
  have e9 : FN (fun x => x = p) h h9 := by rw [h9e]; exact str _ _ _ (str _ _ _ (str _ _ _ e8'))
  have kp9 : kdA h9 p = 8 := by rw [h9e]; exact kp8
  have iv9p : ∀ x k, ivA h9 x k = ivA h8 x k := fun x k => by rw [h9e]; rfl
  simp only [kd_stR, kp8]
  refine ⟨rfl, rfl, rfl, ?_⟩
  -- behind the laws
  have tail : Safe 1 m_Sh_new (110, [.ref p, unV, unV, unV, unV, unV, unV, unV, unV, unV], [.int (kI u)], h9) (fun v h' => Eqv v none ∧ ShN p R W H L r3 r6 r7 u h h') := by
    have bit : ∀ c : Nat, c < 8 → ((kI (u : Int) >>> (kI (c : Int) &&& 31)) &&& kI 1) = bI32 (u.testBit c = true) := fun c hc => kI_bit (by omega) (by omega)
    have b2 := bit 2 (by omega)
    have b3 := bit 3 (by omega)
    have b6 := bit 6 (by omega)
    have b7 := bit 7 (by omega)
    -- the last stretch
    have last : ∀ (P : Prop) [Decidable P] h12, (P ↔ (u.testBit 6 = true ∨ u.testBit 7 = true)) → h12 = stI (stI h9 p 6 (bI32 (u.testBit 2 = true))) p 7 (bI32 (u.testBit 3 = true)) → Safe 1 m_Sh_new (174, [.ref p, unV, unV, unV, unV, unV, unV, unV, unV, unV], [.int (bI32 P), .ref p], h12) (fun v h' => Eqv v none ∧ ShN p R W H L r3 r6 r7 u h h') := fun P _ h12 hP h12e => by
      have e12 : FN (fun x => x = p) h h12 := by rw [h12e]; exact stp _ _ _ (stp _ _ _ e9)
      refine s_Sh_new_174 ?_
      have kp12 : kdA h12 p = 8 := by rw [h12e]; exact kp9
      have iv12 : ∀ k, k < 6 → ivA h12 p k = ivA h7 p k := fun k hk => by rw [h12e, iv_stI, if_neg (by omega), iv_stI, if_neg (by omega), iv9p, iv8p]
      obtain ⟨h13, h13e⟩ : ∃ h13, h13 = stI h12 p 8 (bI32 P) := ⟨_, rfl⟩
      rw [← h13e]
      have e13 : FN (fun x => x = p) h h13 := by rw [h13e]; exact stp _ _ _ e12
      have kp13 : kdA h13 p = 8 := by rw [h13e]; exact kp12
      have iv13 : ∀ k, k < 6 → ivA h13 p k = ivA h7 p k := fun k hk => by rw [h13e, iv_stI, if_neg (by omega)]; exact iv12 k hk
      have i13 : ivA h13 p 2 = kI (N : Nat) := by rw [iv13 2 (by omega), i7 2 (by omega)]; exact i42
      have sz13 : szA h13 = szA h + 2 := by rw [h13e, h12e, h9e]; exact sz8
      have us13 : usA h13 = usA h + 8 + N := by rw [h13e, h12e, h9e]; show usA h8 = _; rw [us8, us7]
      rw [i13, ix_kI (by omega), kd_nw, if_neg (by omega), kp12, kp13, sz13]
      refine ⟨rfl, isB_b P, rfl, inB_kI (by omega) (by omega), rfl, ?_⟩
      obtain ⟨h14, h14e⟩ : ∃ h14, h14 = stR (nwA h13 20 N) p 10 (szA h + 2 + 1) := ⟨_, rfl⟩
      rw [← h14e]
      have e14 : FN (fun x => x = p) h h14 := by rw [h14e]; exact str _ _ _ (e13.trans (FN_nw (by omega) 20 N))
      have iv14 : ∀ x k, x ≠ szA h + 3 → ivA h14 x k = ivA h13 x k := fun x k hx => by rw [h14e, iv_stR, iv_nw, if_neg (by omega)]
      have kd14 : ∀ x, x ≠ szA h + 3 → kdA h14 x = kdA h13 x ∧ lnA h14 x = lnA h13 x := fun x hx => by rw [h14e, kd_stR, ln_stR, kd_nw, ln_nw, if_neg (by omega), if_neg (by omega)]; exact ⟨rfl, rfl⟩
      have rv14 : ∀ x k, x ≠ szA h + 3 → (x ≠ p ∨ k ≠ 10) → rvA h14 x k = rvA h13 x k := fun x k hx hk => by rw [h14e, rv_stR, if_neg (by omega), rv_nw, if_neg (by omega)]
      have r10 : rvA h14 p 10 = szA h + 3 := by rw [h14e, rv_stR, if_pos ⟨rfl, rfl⟩]
      have kn : kdA h14 (szA h + 3) = 20 ∧ lnA h14 (szA h + 3) = N := by rw [h14e, kd_stR, ln_stR, kd_nw, ln_nw, if_pos (by omega), if_pos (by omega)]; exact ⟨rfl, rfl⟩
      refine Sh_nb (W := W) (N := N) w1 W12 (by omega) (by omega) (by rw [(kd14 p (by omega)).1]; exact kp13) ?_ (by rw [iv14 _ _ (by omega)]; exact i13) r10 kn.1 kn.2 (fun h' e' c' => ?_) 0 (by omega) h14 (Fr_rfl _ _ _) (fun k hk => ?_)
      · rw [iv14 _ _ (by omega), iv13 1 (by omega), i7 1 (by omega), h4e, iv_stI, if_neg (by omega), iv_stI, if_pos ⟨rfl, rfl⟩]
      · have ivp : ∀ k, ivA h' p k = ivA h13 p k := fun k => by rw [e'.2.2.2.2.2.1 p k (by omega)]; exact iv14 _ _ (by omega)
        have rvp : ∀ k, k ≠ 10 → rvA h' p k = rvA h13 p k := fun k hk => by rw [e'.2.2.1]; exact rv14 _ _ (by omega) (Or.inr hk)
        have rv13 : ∀ k, rvA h13 p k = rvA h9 p k := fun k => by rw [h13e, h12e]; rfl
        have ivx : ∀ x k, x ≠ p → x ≠ szA h + 3 → ivA h' x k = ivA h8 x k := fun x k hx hx2 => by
          rw [e'.2.2.2.2.2.1 x k (by omega), iv14 _ _ hx2, h13e, iv_stI, if_neg (by omega), h12e, iv_stI, if_neg (by omega), iv_stI, if_neg (by omega)]
          exact iv9p _ _
        have kdx : ∀ x, x ≠ szA h + 3 → kdA h' x = kdA h8 x ∧ lnA h' x = lnA h8 x := fun x hx => by
          rw [e'.1, e'.2.1, (kd14 x hx).1, (kd14 x hx).2, h13e, h12e, h9e]
          exact ⟨rfl, rfl⟩
        have eF : FN (fun x => x = p) h h' := FN.less (A := fun x => x = p ∨ x = szA h + 3) ((e14.mono (fun x w => Or.inl w)).trans (e'.fn (fun a k w => Or.inr w) (fun _ _ w => w.elim))) (fun x o w => by
          rcases w with w | w
          · exact w
          · unfold old at o; omega)
        have i70 : ∀ k, k < 6 → ivA h' p k = ivA h7 p k := fun k hk => by rw [ivp, iv13 k hk]
        have r7 : ∀ k, k ≠ 9 → k ≠ 11 → k ≠ 12 → rvA h9 p k = rvA h7 p k := fun k k1 k2 k3 => by rw [h9e, rv_stR, if_neg (by omega), rv_stR, if_neg (by omega), rv_stR, if_neg (by omega), rv8p]
        refine ⟨rfl, eF, ?_, ?_, ?_, ?_, ?_, ?_, ?_, ?_, ?_, ?_, ?_, ?_, ?_, ?_, ?_, ?_, ⟨?_, ?_⟩, ?_, ⟨?_, ?_⟩, ?_, ⟨?_, ?_⟩⟩
        · rw [e'.2.2.2.1, h14e]; show szA h13 + 1 = _; rw [sz13]
        · rw [e'.2.2.2.2.1, h14e]; show usA h13 + N = _; rw [us13, ← hN]; omega
        · rw [i70 0 (by omega), i7 0 (by omega), h4e, iv_stI, if_neg (by omega)]; exact v0
        · rw [i70 1 (by omega), i7 1 (by omega), h4e, iv_stI, if_neg (by omega)]; exact v1
        · rw [i70 2 (by omega), i7 2 (by omega), i42, hN]
        · rw [i70 3 (by omega), h7e, iv_stI, if_neg (by omega), iv_stI, if_neg (by omega), iv_stI, if_pos ⟨rfl, rfl⟩, hN]
        · rw [i70 4 (by omega), h7e, iv_stI, if_neg (by omega), iv_stI, if_pos ⟨rfl, rfl⟩]
        · rw [i70 5 (by omega), h7e, iv_stI, if_pos ⟨rfl, rfl⟩]
        · rw [ivp, h13e, iv_stI, if_neg (by omega), h12e, iv_stI, if_neg (by omega), iv_stI, if_pos ⟨rfl, rfl⟩]
        · rw [ivp, h13e, iv_stI, if_neg (by omega), h12e, iv_stI, if_pos ⟨rfl, rfl⟩]
        · rw [ivp, h13e, iv_stI, if_pos ⟨rfl, rfl⟩]; exact bI_iff hP
        · rw [rvp _ (by omega), rv13, h9e, rv_stR, if_neg (by omega), rv_stR, if_neg (by omega), rv_stR, if_pos ⟨rfl, rfl⟩]
        · rw [e'.2.2.1]; exact r10
        · rw [rvp _ (by omega), rv13, h9e, rv_stR, if_neg (by omega), rv_stR, if_pos ⟨rfl, rfl⟩]
        · rw [rvp _ (by omega), rv13, h9e, rv_stR, if_pos ⟨rfl, rfl⟩]
        · rw [rvp _ (by omega), rv13, r7 _ (by omega) (by omega) (by omega), h7e, h4e, h1e]; show rvA (stR (nwA h 20 8) p 13 (szA h + 1)) p 13 = _; rw [rv_stR, if_pos ⟨rfl, rfl⟩]
        · rw [(kdx _ (by omega)).1]; exact kd8
        · rw [(kdx _ (by omega)).2, ← hN]; exact ln8
        · intro k hk; rw [ivx _ _ (by omega) (by omega), iv8 k (by omega) (by omega), e7.iv r3 o3 ne3]
        · rw [e'.1]; exact kn.1
        · rw [e'.2.1, ← hN]; exact kn.2
        · intro k hk; rw [c' k (by omega), hN, nbR_W w1 r1 rw12 hk]
        · rw [(kdx _ (by omega)).1, (e8.kl _ (Or.inl (by omega))).1, h7e, h4e, h1e]; show kdA (nwA h 20 8) (szA h + 1) = 20; rw [kd_nw, if_pos rfl]
        · rw [(kdx _ (by omega)).2, (e8.kl _ (Or.inl (by omega))).2, h7e, h4e, h1e]; show lnA (nwA h 20 8) (szA h + 1) = 8; rw [ln_nw, if_pos rfl]
      · rw [h14e, iv_stR, iv_nw, if_pos (by omega)]
        rfl
    have s145 : Safe 1 m_Sh_new (145, [.ref p, unV, unV, unV, unV, unV, unV, unV, .int (kI u), unV], [.int (bI32 (u.testBit 3 = true)), .ref p], stI h9 p 6 (bI32 (u.testBit 2 = true))) (fun v h' => Eqv v none ∧ ShN p R W H L r3 r6 r7 u h h') := by
      refine s_Sh_new_145 ?_
      rw [kd_stI, kp9, isB_b]
      refine ⟨rfl, rfl, ?_⟩
      by_cases q6 : u.testBit 6 = true
      · rw [if_pos (by rw [Bool.not_eq_true', decide_eq_false_iff_not]; rw [show (6 : Int) = ((6 : Nat) : Int) from rfl, b6, bI_0]; exact fun z => z q6)]
        exact s_Sh_new_169 (last True _ (by simp [q6]) rfl)
      · rw [if_neg (by rw [Bool.not_eq_true', decide_eq_false_iff_not, Classical.not_not]; rw [show (6 : Int) = ((6 : Nat) : Int) from rfl, b6, bI_0]; exact q6)]
        by_cases q7 : u.testBit 7 = true
        · rw [if_neg (by rw [decide_eq_true_eq]; rw [show (7 : Int) = ((7 : Nat) : Int) from rfl, b7, bI_0]; exact fun z => z q7)]
          exact s_Sh_new_169 (last True _ (by simp [q7]) rfl)
        · rw [if_pos (by rw [decide_eq_true_eq]; rw [show (7 : Int) = ((7 : Nat) : Int) from rfl, b7, bI_0]; exact q7)]
          exact last False _ (by simp [q6, q7]) rfl
    have s127 : Safe 1 m_Sh_new (127, [.ref p, unV, unV, unV, unV, unV, unV, unV, .int (kI u), unV], [.int (bI32 (u.testBit 2 = true)), .ref p], h9) (fun v h' => Eqv v none ∧ ShN p R W H L r3 r6 r7 u h h') := by
      refine s_Sh_new_127 ?_
      rw [kp9, isB_b]
      refine ⟨rfl, rfl, ?_⟩
      by_cases q3 : u.testBit 3 = true
      · rw [if_neg (by rw [decide_eq_true_eq]; rw [show (3 : Int) = ((3 : Nat) : Int) from rfl, b3, bI_0]; exact fun z => z q3)]
        have := s145
        rw [show bI32 (u.testBit 3 = true) = kI 1 by unfold bI32; rw [if_pos q3]] at this
        exact this
      · rw [if_pos (by rw [decide_eq_true_eq]; rw [show (3 : Int) = ((3 : Nat) : Int) from rfl, b3, bI_0]; exact q3)]
        have := s145
        rw [show bI32 (u.testBit 3 = true) = kI 0 by unfold bI32; rw [if_neg q3]] at this
        exact this
    refine s_Sh_new_110 ?_
    by_cases q2 : u.testBit 2 = true
    · rw [if_neg (by rw [decide_eq_true_eq]; rw [show (2 : Int) = ((2 : Nat) : Int) from rfl, b2, bI_0]; exact fun z => z q2)]
      have := s127
      rw [show bI32 (u.testBit 2 = true) = kI 1 by unfold bI32; rw [if_pos q2]] at this
      exact this
    · rw [if_pos (by rw [decide_eq_true_eq]; rw [show (2 : Int) = ((2 : Nat) : Int) from rfl, b2, bI_0]; exact q2)]
      have := s127
      rw [show bI32 (u.testBit 2 = true) = kI 0 by unfold bI32; rw [if_neg q2]] at this
      exact this
  rcases may with ⟨m1, m2⟩ | ⟨m1, m2, m3, m4, m5⟩
  · rw [if_neg (by rw [m1]; decide)]
    subst m2
    exact tail
  · rw [if_pos (by rw [Bool.not_eq_true', decide_eq_false_iff_not]; exact m1), (e9.kl r6 (Or.inl m2)).1, m4, e9.iv r6 (Or.inl m2) m3 2, m5]
    exact ⟨rfl, tail⟩
