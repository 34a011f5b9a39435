/-! the answer of the reference's sheet -/
theorem M_sheet_no {tp : Nat → Nat} {nt : Nat} {n : Int} {h : AH} (F : Fix h) (t : TM tp nt h) (n1 : -2147483648 ≤ n) (n2 : n ≤ 2147483647) (no : ¬ (0 ≤ n ∧ n ≤ nt)) : GI 3 m_M_sheet [.ref 88, .int (kI n)] h (kI (-3)) (fun h' => h' = stI h 88 0 (kI 0)) := by
  have n9 := t.le
  refine GIo (s_M_sheet_0 ?_)
  rw [kd_88 F, kd_stI, kd_88 F, iv_stI, if_neg (by omega), t.i, kI_long (by omega) (by omega), kI_long (by omega) (by omega)]
  refine ⟨rfl, rfl, (M_within_c (by omega) (by omega) (by omega) (by omega) (by omega) (by omega) (by omega)).mpr ?_⟩
  rw [if_neg (by rw [Bool.not_eq_true', decide_eq_false_iff_not, bI_0]; exact fun y => y no)]
  exact ⟨rfl, rfl⟩
def shtA (r : LR) : Int := match r with
  | .ok q => q.2.1 0
  | .error e => -30 - (e.1 : Int)
/-- behind sheet: a fault is kept, or the text is taken over -/
def ShM (r : LR) (h h' : AH) : Prop := Fr (fun x k => x = 88 ∨ x = 92 ∨ (x = 89 ∧ k < 1001)) JM h h' ∧ ivA h' 88 5 = kI 0 ∧ match r with
  | .ok q => ivA h' 88 13 = kI 0 ∧ ivA h' 88 14 = kI (-1) ∧ (∀ k, k < 100 → ivA h' 89 k = kI (q.2.1 k)) ∧ ∀ k, k < q.2.2.length → k < 900 → ivA h' 89 (101 + k) = kI (q.2.2.getD k 0 : Nat)
  | .error e => ivA h' 88 13 = kI (e.1 : Nat) ∧ ivA h' 88 14 = kI (e.2 : Nat) ∧ ∀ k, ivA h' 89 k = ivA h 89 k
theorem M_sheet_g {tp : Nat → Nat} {nt n : Nat} {h : AH} (F : Fix h) (O : OX h) (t : TM tp nt h) (hn : n ≤ nt) : GI 42 m_M_sheet [.ref 88, .int (kI n)] h (kI (shtA (shtF tp n))) (ShM (shtF tp n) h) := by
  refine GIo (M_sheet_go F O t hn (by omega) (fun h1 f1 f5 e1 => ?_))
  cases hr : shtF tp n with
  | error e =>
    rw [hr] at e1
    obtain ⟨_, B, y1, y2⟩ := e1
    have B0 := B
    obtain ⟨F1, w, z1, z2, z3⟩ := B0
    have ew : e.1 = w ∨ ¬ e.1 < 2147483648 := by
      by_cases q : e.1 < 2147483648
      · left
        rw [y1, kI_inj (by omega) (by omega) (by omega) (by omega)] at z1
        omega
      · exact Or.inr q
    refine M_sheet_142e B z3 z1 ?_
    have ee : kI (e.1 : Int) = kI (w : Int) := by rw [← y1, z1]
    have i89 : ∀ k, ivA (stI (stI h1 88 13 (kI w)) 88 14 (ivA h1 88 12)) 89 k = ivA h 89 k := fun k => by rw [iv_stI, if_neg (by omega), iv_stI, if_neg (by omega), f1.2.2.2.2.2.1 89 k (by omega)]
    refine ⟨?_, ?_, by rw [iv_stI, if_neg (by omega), iv_stI, if_neg (by omega)]; exact f5, ?_, ?_, i89⟩
    · show _ = some (Value.int (kI (-30 - (e.1 : Int))))
      rw [← kI_sub, ← kI_sub, ee]
    · exact (f1.mono (fun x k z => by omega) (fun _ _ z => z)).trans (Fr.stI (I := fun x k => x = 88 ∨ x = 92 ∨ (x = 89 ∧ k < 1001)) (Fr.stI (I := fun x k => x = 88 ∨ x = 92 ∨ (x = 89 ∧ k < 1001)) (Fr_rfl _ _ _) (Or.inl rfl) _) (Or.inl rfl) _)
    · rw [iv_stI, if_neg (by omega), iv_stI, if_pos ⟨rfl, rfl⟩, ee]
    · rw [iv_stI, if_pos ⟨rfl, rfl⟩]; exact y2
  | ok q =>
    rw [hr] at e1
    obtain ⟨_, law1, hl1, M1⟩ := e1
    refine M_sheet_142k M1.1.F M1.1.i11 (fun h2 f2 c2 => ?_)
    have i88 : ∀ k, ivA h2 88 k = ivA (stI (stI h1 88 13 (kI 0)) 88 14 (kI (-1))) 88 k := fun k => f2.2.2.2.2.2.1 88 k (by omega)
    refine ⟨by rw [M1.2 0 (by omega)]; rfl, ?_, by rw [i88, iv_stI, if_neg (by omega), iv_stI, if_neg (by omega)]; exact f5, ?_, ?_, fun k hk => by rw [c2 k (by omega)]; exact M1.2 k hk, fun k hk h9 => by rw [c2 (101 + k) (by omega)]; exact M1.1.cd k hk⟩
    · exact (f1.mono (fun x k z => by omega) (fun _ _ z => z)).trans ((Fr.stI (I := fun x k => x = 88 ∨ x = 92 ∨ (x = 89 ∧ k < 1001)) (Fr.stI (I := fun x k => x = 88 ∨ x = 92 ∨ (x = 89 ∧ k < 1001)) (Fr_rfl _ _ _) (Or.inl rfl) _) (Or.inl rfl) _).trans (f2.mono (fun x k z => Or.inr (Or.inr z)) (fun _ _ z => z)))
    · rw [i88, iv_stI, if_neg (by omega), iv_stI, if_pos ⟨rfl, rfl⟩]
    · rw [i88, iv_stI, if_pos ⟨rfl, rfl⟩]
