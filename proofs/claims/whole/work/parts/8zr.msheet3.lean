/-! the head of a text, with a fault ahead of it -/
def MSame (h h' : AH) : Prop := FLn h h' ∧ MBd h' ∧ ivA h' 88 11 = ivA h 88 11 ∧ ivA h' 88 12 = ivA h 88 12
theorem M_sheet_107d {d : Nat} (hd : 41 ≤ d) {Q : Option Value → AH → Prop} {h : AH} (B : MBd h) {i : Int32} (K : ∀ h', MSame h h' → Safe d m_M_sheet (142, [.ref 88, unV, unV], [], h') Q) : Safe d m_M_sheet (107, [.ref 88, unV, unV], [.int i, .int (kI 1), .ref 88, .int (kI 2), .ref 92], h) Q := by
  have b2 : inB (kI 2) 1001 = true := inB_lit (by omega) (by omega) (by omega)
  have x2 : ix (kI 2) = 2 := ix_kI (n := 2) (by omega)
  refine s_M_sheet_107 ?_
  rw [kd_88 B.1, M_takes_d B (by omega), kd_92 B.1, ln_92 B.1, b2, x2]
  obtain ⟨B1, f1, i1⟩ := B.st 2 (ivA h 88 10)
  rw [kd_88 B1.1]
  refine ⟨rfl, rfl, rfl, rfl, ?_⟩
  refine GV.use (M_ends1_d B1) (by omega) (fun h2 e2 => ?_)
  refine s_M_sheet_115 ?_
  rw [kd_88 e2.2.1.1, if_pos e2.2.1.nz.1]
  exact ⟨rfl, K h2 ⟨f1.trans e2.1, e2.2.1, by rw [e2.2.2.1, i1], by rw [e2.2.2.2, i1]⟩⟩
theorem M_sheet_66d {d : Nat} (hd : 41 ≤ d) {Q : Option Value → AH → Prop} {h : AH} (B : MBd h) (K : ∀ h', MSame h h' → Safe d m_M_sheet (142, [.ref 88, unV, unV], [], h') Q) : Safe d m_M_sheet (66, [.ref 88, unV, unV], [], h) Q := by
  have F := B.1
  have b1 : inB (kI 1) 1001 = true := inB_lit (by omega) (by omega) (by omega)
  have x1 : ix (kI 1) = 1 := ix_kI (n := 1) (by omega)
  refine s_M_sheet_66 ?_
  rw [kd_88 F, M_takes_d B (by omega), rv_88_4 F, kd_92 F, ln_92 F, b1, x1]
  obtain ⟨B1, f1, i1⟩ := B.st 1 (ivA h 88 10)
  rw [kd_88 B1.1, if_pos B1.nz.1, rv_88_4 B1.1]
  refine ⟨rfl, rfl, rfl, rfl, rfl, rfl, ?_⟩
  exact M_sheet_107d hd B1 (fun h' e => K h' ⟨f1.trans e.1, e.2.1, by rw [e.2.2.1, i1], by rw [e.2.2.2, i1]⟩)
