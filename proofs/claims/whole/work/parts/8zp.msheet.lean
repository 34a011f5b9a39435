/-! a blank of the reference -/
def g0F : LG := fun k => if k = 1 ∨ k = 2 then 1 else if k = 23 then 12 else if k = 24 then -1 else 0
theorem M_plain_g {r : Nat} {h : AH} (k : kdA h r = 20) (l : 1001 ≤ lnA h r) : GV 1 m_M_plain [.ref r] h (fun h' => Fr (fun x k => x = r ∧ k < 1001) JM h h' ∧ ∀ j, j < 1001 → ivA h' r j = kI (g0F j)) := by
  have bb : ∀ j : Nat, j < 1001 → ∀ L, 1001 ≤ L → inB (kI (j : Int)) L = true := fun j hj L hL => inB_kI (by omega) (by omega)
  refine GVo (s_M_plain_0 ?_)
  suffices H : ∀ j, j ≤ 1001 → ∀ h1, Fr (fun x k => x = r ∧ k < 1001) JM h h1 → (∀ i, i < j → ivA h1 r i = kI 0) → Safe 0 m_M_plain (2, [.ref r, .int (kI (j : Nat))], [], h1) (fun v h' => Eqv v none ∧ Fr (fun x k => x = r ∧ k < 1001) JM h h' ∧ ∀ j, j < 1001 → ivA h' r j = kI (g0F j)) by
    exact H 0 (by omega) h (Fr_rfl _ _ _) (fun i hi => by omega)
  refine down_ind 1001 ?_ ?_
  · intro h1 e1 A1
    have k1 : kdA h1 r = 20 := by rw [e1.1]; exact k
    have l1 : 1001 ≤ lnA h1 r := by rw [e1.2.1]; exact l
    have c1 : inB (kI 1) (lnA h1 r) = true := bb 1 (by omega) _ l1
    have c2 : inB (kI 2) (lnA h1 r) = true := bb 2 (by omega) _ l1
    have c3 : inB (kI 23) (lnA h1 r) = true := bb 23 (by omega) _ l1
    have c4 : inB (kI 24) (lnA h1 r) = true := bb 24 (by omega) _ l1
    have x1 : ix (kI 1) = 1 := ix_kI (n := 1) (by omega)
    have x2 : ix (kI 2) = 2 := ix_kI (n := 2) (by omega)
    have x3 : ix (kI 23) = 23 := ix_kI (n := 23) (by omega)
    have x4 : ix (kI 24) = 24 := ix_kI (n := 24) (by omega)
    refine s_M_plain_2 ?_
    rw [if_pos (by decide)]
    simp only [kd_stI, ln_stI, k1, c1, c2, c3, c4, x1, x2, x3, x4]
    refine ⟨rfl, trivial, rfl, trivial, rfl, trivial, rfl, trivial, rfl, ?_, fun j hj => ?_⟩
    · have s1 := Fr.stI (I := fun x k => x = r ∧ k < 1001) e1 (a := r) (k := 1) ⟨rfl, by omega⟩ (kI 1)
      have s2 := Fr.stI (I := fun x k => x = r ∧ k < 1001) s1 (a := r) (k := 2) ⟨rfl, by omega⟩ (kI 1)
      have s3 := Fr.stI (I := fun x k => x = r ∧ k < 1001) s2 (a := r) (k := 23) ⟨rfl, by omega⟩ (kI 12)
      exact Fr.stI (I := fun x k => x = r ∧ k < 1001) s3 (a := r) (k := 24) ⟨rfl, by omega⟩ (kI (-1))
    · unfold g0F
      rw [iv_stI]
      by_cases q4 : j = 24
      · rw [if_pos ⟨rfl, q4⟩, if_neg (by omega), if_neg (by omega), if_pos q4]
      · rw [if_neg (by omega), iv_stI]
        by_cases q3 : j = 23
        · rw [if_pos ⟨rfl, q3⟩, if_neg (by omega), if_pos q3]
        · rw [if_neg (by omega), iv_stI]
          by_cases q2 : j = 2
          · rw [if_pos ⟨rfl, q2⟩, if_pos (Or.inr q2)]
          · rw [if_neg (by omega), iv_stI]
            by_cases q1 : j = 1
            · rw [if_pos ⟨rfl, q1⟩, if_pos (Or.inl q1)]
            · rw [if_neg (by omega), if_neg (by omega), if_neg q3, if_neg q4]
              exact A1 j hj
  · intro j hj ih h1 e1 A1
    have k1 : kdA h1 r = 20 := by rw [e1.1]; exact k
    have l1 : 1001 ≤ lnA h1 r := by rw [e1.2.1]; exact l
    refine s_M_plain_2 ?_
    rw [if_neg (by rw [decide_eq_true_eq, kI_le (by omega) (by omega) (by omega) (by omega)]; omega), k1, bb j hj _ l1, ix_kI (by omega), kI_add]
    refine ⟨rfl, rfl, ?_⟩
    refine ih _ (Fr.stI (I := fun x k => x = r ∧ k < 1001) e1 ⟨rfl, hj⟩ _) (fun i hi => ?_)
    rw [iv_stI]
    by_cases q : i = j
    · rw [if_pos ⟨rfl, q⟩]
    · rw [if_neg (by omega)]
      exact A1 i (by omega)
