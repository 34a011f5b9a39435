/-! the end of the reference's sheet -/
theorem M_sheet_186 {d : Nat} {Q : Option Value → AH → Prop} {h : AH} (F : Fix h) (K : ∀ h', Fr (fun x k => x = 89 ∧ k < 1001) JM h h' → (∀ j, j < 1001 → ivA h' 89 j = ivA h 92 j) → Q (some (.int (ivA h 92 0))) h') : Safe d m_M_sheet (186, [.ref 88, unV, .int (kI 0)], [], h) Q := by
  suffices H : ∀ j, j ≤ 1001 → ∀ h1, Fr (fun x k => x = 89 ∧ k < 1001) JM h h1 → (∀ i, i < j → ivA h1 89 i = ivA h 92 i) → Safe d m_M_sheet (186, [.ref 88, unV, .int (kI (j : Nat))], [], h1) Q by
    exact H 0 (by omega) h (Fr_rfl _ _ _) (fun i hi => by omega)
  refine down_ind 1001 ?_ ?_
  · intro h1 e1 A1
    have F1 := e1.fix F
    refine s_M_sheet_186 ?_
    have x0 : ix (kI 0) = 0 := ix_kI (n := 0) (by omega)
    rw [if_pos (by decide), kd_88 F1, rv_88_1 F1, kd_89 F1, ln_89 F1, x0, A1 0 (by omega)]
    exact ⟨rfl, rfl, inB_lit (by omega) (by omega) (by omega), K h1 e1 A1⟩
  · intro j hj ih h1 e1 A1
    have F1 := e1.fix F
    refine s_M_sheet_186 ?_
    rw [if_neg (by rw [decide_eq_true_eq, kI_le (by omega) (by omega) (by omega) (by omega)]; omega), kd_88 F1, rv_88_1 F1, kd_89 F1, ln_89 F1, rv_88_4 F1, kd_92 F1, ln_92 F1, ix_kI (by omega), kI_add, e1.2.2.2.2.2.1 92 j (by omega)]
    refine ⟨rfl, rfl, rfl, inB_kI (by omega) (by omega), rfl, inB_kI (by omega) (by omega), ?_⟩
    refine ih _ (Fr.stI (I := fun x k => x = 89 ∧ k < 1001) e1 ⟨rfl, hj⟩ _) (fun i hi => ?_)
    rw [iv_stI]
    by_cases q : i = j
    · rw [if_pos ⟨rfl, q⟩, q]
    · rw [if_neg (by omega)]
      exact A1 i (by omega)
/-- a text with a fault: both numbers of it are kept, the rest stays -/
theorem M_sheet_142e {d : Nat} {Q : Option Value → AH → Prop} {h : AH} (B : MBd h) {w : Nat} (w4 : w ≤ 4) (e : ivA h 88 11 = kI w) (K : Q (some (.int (kI (-30 - (w : Int))))) (stI (stI h 88 13 (kI w)) 88 14 (ivA h 88 12))) : Safe d m_M_sheet (142, [.ref 88, unV, unV], [], h) Q := by
  have F := B.1
  have nz := B.nz
  rw [e] at nz
  obtain ⟨h1, h1e⟩ : ∃ h1, h1 = stI h 88 13 (kI w) := ⟨_, rfl⟩
  have k1 : ∀ x, kdA h1 x = kdA h x := fun x => by rw [h1e, kd_stI]
  have c11 : ivA h1 88 11 = kI w := by rw [h1e, iv_stI, if_neg (by omega)]; exact e
  have c12 : ivA h1 88 12 = ivA h 88 12 := by rw [h1e, iv_stI, if_neg (by omega)]
  have d11 : ivA (stI h1 88 14 (ivA h 88 12)) 88 11 = kI w := by rw [iv_stI, if_neg (by omega)]; exact c11
  refine s_M_sheet_142 ?_
  rw [e, ← h1e, k1, kd_88 F, c11, c12, if_pos nz.1]
  refine ⟨rfl, rfl, rfl, rfl, ?_⟩
  refine s_M_sheet_166 ?_
  rw [kd_stI, k1, kd_88 F, d11, if_neg nz.2, kI_sub]
  rw [← h1e] at K
  exact ⟨rfl, rfl, rfl, K⟩
/-- a text without a fault: it is copied -/
theorem M_sheet_142k {d : Nat} {Q : Option Value → AH → Prop} {h : AH} (F : Fix h) (e : ivA h 88 11 = kI 0) (K : ∀ h', Fr (fun x k => x = 89 ∧ k < 1001) JM (stI (stI h 88 13 (kI 0)) 88 14 (kI (-1))) h' → (∀ j, j < 1001 → ivA h' 89 j = ivA h 92 j) → Q (some (.int (ivA h 92 0))) h') : Safe d m_M_sheet (142, [.ref 88, unV, unV], [], h) Q := by
  obtain ⟨h1, h1e⟩ : ∃ h1, h1 = stI h 88 13 (kI 0) := ⟨_, rfl⟩
  have k1 : ∀ x, kdA h1 x = kdA h x := fun x => by rw [h1e, kd_stI]
  have c11 : ivA h1 88 11 = kI 0 := by rw [h1e, iv_stI, if_neg (by omega)]; exact e
  obtain ⟨h2, h2e⟩ : ∃ h2, h2 = stI h1 88 14 (kI (-1)) := ⟨_, rfl⟩
  have d11 : ivA h2 88 11 = kI 0 := by rw [h2e, iv_stI, if_neg (by omega)]; exact c11
  have f2 : Fr (fun x k => x = 88 ∧ (k = 13 ∨ k = 14)) JM h h2 := by
    rw [h2e, h1e]
    exact Fr.stI (I := fun x k => x = 88 ∧ (k = 13 ∨ k = 14)) (Fr.stI (I := fun x k => x = 88 ∧ (k = 13 ∨ k = 14)) (Fr_rfl _ _ h) ⟨rfl, Or.inl rfl⟩ _) ⟨rfl, Or.inr rfl⟩ _
  have F2 := f2.fix F
  have i92 : ∀ j, ivA h2 92 j = ivA h 92 j := fun j => f2.2.2.2.2.2.1 92 j (by omega)
  refine s_M_sheet_142 ?_
  rw [e, ← h1e, k1, kd_88 F, c11, if_neg (by decide)]
  refine ⟨rfl, rfl, rfl, ?_⟩
  refine s_M_sheet_166 ?_
  rw [← h2e, k1, kd_88 F, kd_88 F2, d11, if_pos (by decide)]
  refine ⟨rfl, rfl, ?_⟩
  refine M_sheet_186 F2 (fun h' e1 e2 => ?_)
  rw [i92]
  rw [← h1e, ← h2e] at K
  exact K h' e1 (fun j hj => by rw [e2 j hj, i92])
