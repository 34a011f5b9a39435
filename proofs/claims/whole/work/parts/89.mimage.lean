/-! image and restore of the reference -/
theorem MLaw_cp {code : List Nat} {law b b' : Nat} {h h' : AH} (hl : law ≤ 1) (L : MLaw code law b h) (e : ∀ k, k < 1001 → ivA h' 89 (b' + k) = ivA h 89 (b + k)) : MLaw code law b' h' := by
  have e' : ∀ j j', (∃ k, k < 1001 ∧ j = b' + k ∧ j' = b + k) → ivA h' 89 j = ivA h 89 j' := by
    rintro j j' ⟨k, hk, rfl, rfl⟩
    exact e k hk
  refine ⟨?_, fun hne => ?_⟩
  · rw [e' _ (b + 4 + law) ⟨4 + law, by omega, by omega, by omega⟩]
    exact L.1
  · obtain ⟨fr, h1, h2, h3, h4⟩ := L.2 hne
    refine ⟨fr, h1, ?_, ?_, fun k hk => ?_⟩
    · rw [e' _ (b + 6 + law) ⟨6 + law, by omega, by omega, by omega⟩]; exact h2
    · rw [e' _ (b + 8 + law) ⟨8 + law, by omega, by omega, by omega⟩]; exact h3
    · rw [e' _ (b + 101 + fr + k) ⟨101 + fr + k, by omega, by omega, by omega⟩]; exact h4 k hk
theorem MSt_cp {s : ST} {b b' : Nat} {h h' : AH} (H : MSt s b h) (e : ∀ k, k < 1001 → ivA h' 89 (b' + k) = ivA h 89 (b + k)) : MSt s b' h' := by
  obtain ⟨h0, h1, h2, h3, hk, lm, lo⟩ := H
  refine ⟨?_, ?_, ?_, ?_, fun k hk' => ?_, MLaw_cp (by omega) lm e, MLaw_cp (by omega) lo e⟩
  · have := e 0 (by omega); rw [Nat.add_zero, Nat.add_zero] at this; rw [this]; exact h0
  · rw [e 1 (by omega)]; exact h1
  · rw [e 2 (by omega)]; exact h2
  · rw [e 3 (by omega)]; exact h3
  · rw [Nat.add_assoc, e (10 + k) (by omega), ← Nat.add_assoc]; exact hk k hk'
theorem MDy_cp {y : DY} {b b' : Nat} {h h' : AH} (H : MDy y b h) (e : ∀ k, k < 1001 → ivA h' 89 (b' + k) = ivA h 89 (b + k)) : MDy y b' h' := by
  obtain ⟨h0, h1, h2, hk⟩ := H
  refine ⟨?_, ?_, ?_, fun k hk' => ?_⟩
  · rw [e 22 (by omega)]; exact h0
  · rw [e 23 (by omega)]; exact h1
  · rw [e 24 (by omega)]; exact h2
  · rw [Nat.add_assoc, e (25 + k) (by omega), ← Nat.add_assoc]; exact hk k hk'
def IIm (i a k : Nat) : Prop := (a = 88 ∧ k = 0) ∨ (a = 89 ∧ 1001 * (i + 1) ≤ k ∧ k < 1001 * (i + 2)) ∨ (a = 90 ∧ k = i)
theorem M_image_g {s : ST} {y : DY} {hs : List DY} {h : AH} (B : BM s y hs h) {i : Nat} (hi : i < 2) : GI 2 m_M_image [.ref 88, .int (kI i)] h (kI 0) (fun h' => Fr (IIm i) I0 h h' ∧ BM s y hs h' ∧ MSt s (1001 * (i + 1)) h' ∧ MDy y (1001 * (i + 1)) h' ∧ ivA h' 90 i = kI 1) := by
  have F := B.M.fix
  have f1 : Fr (IIm i) I0 h (stI h 88 0 (kI 0)) := (Fr_rfl _ _ _).stI (Or.inl ⟨rfl, rfl⟩) _
  have zw : (0 : Int) ≤ (i : Int) ∧ (i : Int) ≤ 1 := by omega
  have nb : ∀ k, k < 1001 → ¬ IIm i 89 k := fun k hk w => by unfold IIm at w; omega
  have ixi : ix (kI (i : Int)) = i := ix_kI (by omega)
  have ibi : inB (kI (i : Int)) 2 = true := inB_kI (by omega) (by omega)
  refine GIo (s_M_image_0 ?_)
  refine ⟨by rw [kd_88 F]; rfl, ?_⟩
  rw [kI_long (by omega) (by omega), M_within_c (by omega) (by omega) (by omega) (by omega) (by omega) (by omega) (by omega), if_pos (by rw [Bool.not_eq_true', decide_eq_false_iff_not, show (0 : Int32) = kI 0 from rfl, bI_k0]; exact fun w => w zw)]
  suffices H : ∀ k, k ≤ 1001 → ∀ h1, Fr (IIm i) I0 h h1 → (∀ j, j < k → ivA h1 89 (1001 * (i + 1) + j) = ivA h 89 (0 + j)) → Safe 1 m_M_image (20, [.ref 88, .int (kI i), .int (kI k)], [], h1) (fun v h' => Eqv v (some (.int (kI 0))) ∧ Fr (IIm i) I0 h h' ∧ BM s y hs h' ∧ MSt s (1001 * (i + 1)) h' ∧ MDy y (1001 * (i + 1)) h' ∧ ivA h' 90 i = kI 1) by
    exact H 0 (by omega) _ f1 (fun j hj => by omega)
  refine down_ind 1001 ?_ ?_
  · intro h1 e1 M1
    have F1 := e1.fix F
    refine s_M_image_20 ?_
    rw [if_pos (by rw [decide_eq_true_eq, kI_le (by omega) (by omega) (by omega) (by omega)]; omega), rv_88_2 F1, ixi, ln_90 F1]
    have f2 : Fr (IIm i) I0 h1 (stI h1 90 i ((kI 1).toInt8.toInt32)) := (Fr_rfl _ _ _).stI (Or.inr (Or.inr ⟨rfl, rfl⟩)) _
    have e2 := e1.trans f2
    have M2 : ∀ j, j < 1001 → ivA (stI h1 90 i ((kI 1).toInt8.toInt32)) 89 (1001 * (i + 1) + j) = ivA h 89 (0 + j) := fun j hj => by rw [iv_stI, if_neg (by omega)]; exact M1 j hj
    refine ⟨by rw [kd_88 F1]; rfl, by rw [kd_90 F1]; rfl, ibi, rfl, e2, B.scr e2 nb, MSt_cp B.M.2.2.2.1 M2, MDy_cp B.M.2.2.2.2 M2, ?_⟩
    rw [iv_stI, if_pos ⟨rfl, rfl⟩]
    rfl
  · intro k hk ih h1 e1 M1
    have F1 := e1.fix F
    have ek : kI 1001 * (kI (i : Int) + kI 1) + kI (k : Int) = kI ((1001 * (i + 1) + k : Nat) : Int) := by
      rw [kI_add, kI_mul, kI_add]; congr 1
    have ix1 : ix (kI (k : Int)) = k := ix_kI (by omega)
    have ix2 : ix (kI ((1001 * (i + 1) + k : Nat) : Int)) = 1001 * (i + 1) + k := ix_kI (by omega)
    have ib1 : inB (kI (k : Int)) 3003 = true := inB_kI (by omega) (by omega)
    have ib2 : inB (kI ((1001 * (i + 1) + k : Nat) : Int)) 3003 = true := inB_kI (by omega) (by omega)
    refine s_M_image_20 ?_
    rw [if_neg (by rw [decide_eq_true_eq, kI_le (by omega) (by omega) (by omega) (by omega)]; omega), ek, rv_88_1 F1, ix1, ix2, ln_89 F1]
    have f2 : Fr (IIm i) I0 h1 (stI h1 89 (1001 * (i + 1) + k) (ivA h1 89 k)) := (Fr_rfl _ _ _).stI (Or.inr (Or.inl ⟨rfl, by omega, by omega⟩)) _
    have := ih _ (e1.trans f2) (fun j hj => ?_)
    · rw [kI_add]
      exact ⟨by rw [kd_88 F1]; rfl, by rw [kd_88 F1]; rfl, by rw [kd_89 F1]; rfl, ib1, by rw [kd_89 F1]; rfl, ib2, this⟩
    · rw [iv_stI]
      by_cases q : j = k
      · rw [if_pos (by omega), e1.2.2.2.2.2.1 89 k (nb k (by omega)), q, Nat.zero_add]
      · rw [if_neg (by omega)]; exact M1 j (by omega)
theorem M_image_no {h : AH} (F : Fix h) {i : Int} (i1 : -2147483648 ≤ i) (i2 : i ≤ 2147483647) (n : i < 0 ∨ 1 < i) : GI 2 m_M_image [.ref 88, .int (kI i)] h (kI (-2)) (fun h' => h' = stI h 88 0 (kI 0)) := by
  refine GIo (s_M_image_0 ?_)
  refine ⟨by rw [kd_88 F]; rfl, ?_⟩
  rw [kI_long (by omega) (by omega), M_within_c (by omega) (by omega) (by omega) (by omega) (by omega) (by omega) (by omega), if_neg (by rw [Bool.not_eq_true', decide_eq_false_iff_not, show (0 : Int32) = kI 0 from rfl, bI_k0]; omega)]
  exact ⟨rfl, rfl⟩
theorem M_restore_no {h : AH} (F : Fix h) {i : Int} (i1 : -2147483648 ≤ i) (i2 : i ≤ 2147483647) (n : i < 0 ∨ 1 < i) : GI 2 m_M_restore [.ref 88, .int (kI i)] h (kI (-2)) (fun h' => h' = stI h 88 0 (kI 0)) := by
  refine GIo (s_M_restore_0 ?_)
  refine ⟨by rw [kd_88 F]; rfl, ?_⟩
  rw [kI_long (by omega) (by omega), M_within_c (by omega) (by omega) (by omega) (by omega) (by omega) (by omega) (by omega), if_neg (by rw [Bool.not_eq_true', decide_eq_false_iff_not, show (0 : Int32) = kI 0 from rfl, bI_k0]; omega)]
  exact ⟨rfl, rfl⟩
theorem M_restore_none {h : AH} (F : Fix h) {i : Nat} (hi : i < 2) (r : ivA h 90 i = kI 0) : GI 2 m_M_restore [.ref 88, .int (kI i)] h (kI (-5)) (fun h' => h' = stI h 88 0 (kI 0)) := by
  have F1 : Fix (stI h 88 0 (kI 0)) := fix_stI F _ _ _
  have zw : (0 : Int) ≤ (i : Int) ∧ (i : Int) ≤ 1 := by omega
  have ixi : ix (kI (i : Int)) = i := ix_kI (by omega)
  have ibi : inB (kI (i : Int)) 2 = true := inB_kI (by omega) (by omega)
  refine GIo (s_M_restore_0 ?_)
  refine ⟨by rw [kd_88 F]; rfl, ?_⟩
  rw [kI_long (by omega) (by omega), M_within_c (by omega) (by omega) (by omega) (by omega) (by omega) (by omega) (by omega), if_pos (by rw [Bool.not_eq_true', decide_eq_false_iff_not, show (0 : Int32) = kI 0 from rfl, bI_k0]; exact fun w => w zw), rv_88_2 F1, ixi, ln_90 F1, show ivA (stI h 88 0 (kI 0)) 90 i = kI 0 by rw [iv_stI, if_neg (by omega)]; exact r]
  refine ⟨by rw [kd_88 F1]; rfl, by rw [kd_90 F1]; rfl, ibi, ?_⟩
  rw [if_neg (by decide)]
  exact ⟨rfl, rfl⟩
def IRe (a k : Nat) : Prop := (a = 88 ∧ k = 0) ∨ (a = 89 ∧ k < 1001)
theorem M_restore_g {s s' : ST} {y z : DY} {hs : List DY} {h : AH} (B : BM s y hs h) {i : Nat} (hi : i < 2) (r : ivA h 90 i = kI 1) (w : WFS s') (wz : WFY s' z) (S : MSt s' (1001 * (i + 1)) h) (Z : MDy z (1001 * (i + 1)) h) : GI 2 m_M_restore [.ref 88, .int (kI i)] h (kI 0) (fun h' => Fr IRe I0 h h' ∧ BM s' z [] h') := by
  have F := B.M.fix
  have F0 : Fix (stI h 88 0 (kI 0)) := fix_stI F _ _ _
  have f1 : Fr IRe I0 h (stI h 88 0 (kI 0)) := (Fr_rfl _ _ _).stI (Or.inl ⟨rfl, rfl⟩) _
  have zw : (0 : Int) ≤ (i : Int) ∧ (i : Int) ≤ 1 := by omega
  have nb : ∀ k, 1001 ≤ k → ¬ IRe 89 k := fun k hk w => by unfold IRe at w; omega
  have ixi : ix (kI (i : Int)) = i := ix_kI (by omega)
  have ibi : inB (kI (i : Int)) 2 = true := inB_kI (by omega) (by omega)
  refine GIo (s_M_restore_0 ?_)
  refine ⟨by rw [kd_88 F]; rfl, ?_⟩
  rw [kI_long (by omega) (by omega), M_within_c (by omega) (by omega) (by omega) (by omega) (by omega) (by omega) (by omega), if_pos (by rw [Bool.not_eq_true', decide_eq_false_iff_not, show (0 : Int32) = kI 0 from rfl, bI_k0]; exact fun w => w zw), rv_88_2 F0, ixi, ln_90 F0, show ivA (stI h 88 0 (kI 0)) 90 i = kI 1 by rw [iv_stI, if_neg (by omega)]; exact r]
  refine ⟨by rw [kd_88 F0]; rfl, by rw [kd_90 F0]; rfl, ibi, ?_⟩
  rw [if_pos (by decide)]
  suffices H : ∀ k, k ≤ 1001 → ∀ h1, Fr IRe I0 h h1 → (∀ j, j < k → ivA h1 89 (0 + j) = ivA h 89 (1001 * (i + 1) + j)) → Safe 1 m_M_restore (32, [.ref 88, .int (kI i), .int (kI k)], [], h1) (fun v h' => Eqv v (some (.int (kI 0))) ∧ Fr IRe I0 h h' ∧ BM s' z [] h') by
    exact H 0 (by omega) _ f1 (fun j hj => by omega)
  refine down_ind 1001 ?_ ?_
  · intro h1 e1 M1
    have F1 := e1.fix F
    have ix29 : ix (kI 29) = 29 := ix_kI (n := 29) (by omega)
    have ib29 : inB (kI 29) 3003 = true := inB_kI (n := 29) (by omega) (by omega)
    refine s_M_restore_32 ?_
    rw [if_pos (by rw [decide_eq_true_eq, kI_le (by omega) (by omega) (by omega) (by omega)]; omega), rv_88_1 F1, ix29, ln_89 F1]
    have f2 : Fr (fun a k => a = 89 ∧ k = 29) I0 h1 (stI h1 89 29 (kI 0)) := (Fr_rfl _ _ _).stI ⟨rfl, rfl⟩ _
    have e2 := e1.trans (f2.mono (fun a k w => Or.inr ⟨w.1, by omega⟩) (fun _ _ w => w))
    have S1 : MSt s' 0 h1 := MSt_cp S M1
    have Z1 : MDy z 0 h1 := MDy_cp Z M1
    have iv2 : ∀ k, k ≠ 29 → ivA (stI h1 89 29 (kI 0)) 89 k = ivA h1 89 k := fun k hk => by rw [iv_stI, if_neg (by omega)]
    refine ⟨by rw [kd_88 F1]; rfl, by rw [kd_89 F1]; rfl, ib29, rfl, e2, ⟨e2.fix F, w, wz, MSt_ext2 S1 (fun k hk => iv2 k (by omega)), ?_⟩, ⟨by simp, by rw [iv_stI, if_pos ⟨rfl, rfl⟩]; rfl, fun j hj => absurd hj (Nat.not_lt_zero j)⟩, fun j hj => absurd hj (Nat.not_lt_zero j)⟩
    refine ⟨?_, ?_, ?_, fun k hk => ?_⟩
    · rw [iv2 _ (by omega)]; exact Z1.1
    · rw [iv2 _ (by omega)]; exact Z1.2.1
    · rw [iv2 _ (by omega)]; exact Z1.2.2.1
    · rw [iv2 _ (by omega)]; exact Z1.2.2.2 k hk
  · intro k hk ih h1 e1 M1
    have F1 := e1.fix F
    have ek : kI 1001 * (kI (i : Int) + kI 1) + kI (k : Int) = kI ((1001 * (i + 1) + k : Nat) : Int) := by
      rw [kI_add, kI_mul, kI_add]; congr 1
    have ix1 : ix (kI (k : Int)) = k := ix_kI (by omega)
    have ix2 : ix (kI ((1001 * (i + 1) + k : Nat) : Int)) = 1001 * (i + 1) + k := ix_kI (by omega)
    have ib1 : inB (kI (k : Int)) 3003 = true := inB_kI (by omega) (by omega)
    have ib2 : inB (kI ((1001 * (i + 1) + k : Nat) : Int)) 3003 = true := inB_kI (by omega) (by omega)
    refine s_M_restore_32 ?_
    rw [if_neg (by rw [decide_eq_true_eq, kI_le (by omega) (by omega) (by omega) (by omega)]; omega), ek, rv_88_1 F1, ix1, ix2, ln_89 F1]
    have f2 : Fr IRe I0 h1 (stI h1 89 k (ivA h1 89 (1001 * (i + 1) + k))) := (Fr_rfl _ _ _).stI (Or.inr ⟨rfl, hk⟩) _
    have := ih _ (e1.trans f2) (fun j hj => ?_)
    · rw [kI_add]
      exact ⟨by rw [kd_88 F1]; rfl, by rw [kd_88 F1]; rfl, by rw [kd_89 F1]; rfl, ib2, by rw [kd_89 F1]; rfl, ib1, this⟩
    · rw [iv_stI, Nat.zero_add]
      by_cases q : j = k
      · rw [if_pos ⟨rfl, q⟩, e1.2.2.2.2.2.1 89 _ (nb _ (by omega)), q]
      · rw [if_neg (fun w => q w.2)]
        have := M1 j (by omega)
        rw [Nat.zero_add] at this
        exact this
