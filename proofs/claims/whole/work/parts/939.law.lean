/-! the law: call by call -/
theorem lg_self (x : Int64) : decide (lg_cmp x x = 0) = true := by
  rw [decide_eq_true_eq, cmp_eq]
theorem law_feed {L : Nat} {xs : Nat → Int32} {c : Nat} {h : AH} (I : Inv L xs c h) (c5 : c ≤ 600) (hL : 6 * c + 6 ≤ L) (L3 : L ≤ 3072) {Q : Option Value → AH → Prop} (K : ∀ h', Inv L xs (c + 1) h' → Safe 200 m_L_law (1627, [.ref 1000000, .ref 1, .ref 88, .int (kI (6 * c : Nat))], [], h') Q) : Safe 200 m_L_law (216, [.ref 1000000, .ref 1, .ref 88, .int (kI (6 * c : Nat))], [], h) Q := by
  have I0 := I
  obtain ⟨T, R, s, p, y, v, hs, nx, w, tp, nt, fa, fb, im, C, M, W, O, S, hv, B⟩ := I0
  have F := C.X.B.F
  refine s_L_law_216 ?_
  have a1 : kI ((6 * c : Nat) : Int) + kI 1 = kI ((6 * c + 1 : Nat) : Int) := by rw [kI_add]; rfl
  have x1 : ix (kI ((6 * c + 1 : Nat) : Int)) = 6 * c + 1 := ix_kI (by omega)
  have b1 : inB (kI ((6 * c + 1 : Nat) : Int)) L = true := inB_kI (by omega) (by omega)
  have a2 : kI ((6 * c : Nat) : Int) + kI 2 = kI ((6 * c + 2 : Nat) : Int) := by rw [kI_add]; rfl
  have x2 : ix (kI ((6 * c + 2 : Nat) : Int)) = 6 * c + 2 := ix_kI (by omega)
  have b2 : inB (kI ((6 * c + 2 : Nat) : Int)) L = true := inB_kI (by omega) (by omega)
  have a3 : kI ((6 * c : Nat) : Int) + kI 3 = kI ((6 * c + 3 : Nat) : Int) := by rw [kI_add]; rfl
  have x3 : ix (kI ((6 * c + 3 : Nat) : Int)) = 6 * c + 3 := ix_kI (by omega)
  have b3 : inB (kI ((6 * c + 3 : Nat) : Int)) L = true := inB_kI (by omega) (by omega)
  have a4 : kI ((6 * c : Nat) : Int) + kI 4 = kI ((6 * c + 4 : Nat) : Int) := by rw [kI_add]; rfl
  have x4 : ix (kI ((6 * c + 4 : Nat) : Int)) = 6 * c + 4 := ix_kI (by omega)
  have b4 : inB (kI ((6 * c + 4 : Nat) : Int)) L = true := inB_kI (by omega) (by omega)
  have a5 : kI ((6 * c : Nat) : Int) + kI 5 = kI ((6 * c + 5 : Nat) : Int) := by rw [kI_add]; rfl
  have x5 : ix (kI ((6 * c + 5 : Nat) : Int)) = 6 * c + 5 := ix_kI (by omega)
  have b5 : inB (kI ((6 * c + 5 : Nat) : Int)) L = true := inB_kI (by omega) (by omega)
  simp only [a1, a2, a3, a4, a5, x1, x2, x3, x4, x5, b1, b2, b3, b4, b5, S.1, S.2.1, S.2.2, kd_1 F, decide_true, Bool.or_true, true_and]
  obtain ⟨x, hx⟩ := op_feed I c5 (xs (6 * c + 1)) (xs (6 * c + 2)) (xs (6 * c + 3)) (xs (6 * c + 4)) (xs (6 * c + 5))
  refine GI.use hx (by omega) (fun h1 z => ?_)
  obtain ⟨S1, F1', hm⟩ := z
  simp only [a1, a2, a3, a4, a5, x1, x2, x3, x4, x5, b1, b2, b3, b4, b5, S1.1, S1.2.1, S1.2.2, kd_88 F1', decide_true, Bool.or_true, true_and]
  refine GI.use hm (by omega) (fun h3 I3 => ?_)
  rw [if_pos (by simp)]
  exact K h3 I3
theorem law_sheet {L : Nat} {xs : Nat → Int32} {c : Nat} {h : AH} (I : Inv L xs c h) (c5 : c ≤ 600) (hL : 6 * c + 6 ≤ L) (L3 : L ≤ 3072) {Q : Option Value → AH → Prop} (K : ∀ h', Inv L xs (c + 1) h' → Safe 200 m_L_law (1627, [.ref 1000000, .ref 1, .ref 88, .int (kI (6 * c : Nat))], [], h') Q) : Safe 200 m_L_law (279, [.ref 1000000, .ref 1, .ref 88, .int (kI (6 * c : Nat))], [], h) Q := by
  have I0 := I
  obtain ⟨T, R, s, p, y, v, hs, nx, w, tp, nt, fa, fb, im, C, M, W, O, S, hv, B⟩ := I0
  have F := C.X.B.F
  refine s_L_law_279 ?_
  have a1 : kI ((6 * c : Nat) : Int) + kI 1 = kI ((6 * c + 1 : Nat) : Int) := by rw [kI_add]; rfl
  have x1 : ix (kI ((6 * c + 1 : Nat) : Int)) = 6 * c + 1 := ix_kI (by omega)
  have b1 : inB (kI ((6 * c + 1 : Nat) : Int)) L = true := inB_kI (by omega) (by omega)
  simp only [a1, x1, b1, S.1, S.2.1, S.2.2, kd_1 F, decide_true, Bool.or_true, true_and]
  obtain ⟨x, hx⟩ := op_sheet I c5 (xs (6 * c + 1))
  refine GI.use hx (by omega) (fun h1 z => ?_)
  obtain ⟨S1, F1', hm⟩ := z
  simp only [a1, x1, b1, S1.1, S1.2.1, S1.2.2, kd_88 F1', decide_true, Bool.or_true, true_and]
  refine GI.use hm (by omega) (fun h3 I3 => ?_)
  rw [if_pos (by simp)]
  exact K h3 I3
theorem law_fault {L : Nat} {xs : Nat → Int32} {c : Nat} {h : AH} (I : Inv L xs c h) (c5 : c ≤ 600) (hL : 6 * c + 6 ≤ L) (L3 : L ≤ 3072) {Q : Option Value → AH → Prop} (K : ∀ h', Inv L xs (c + 1) h' → Safe 200 m_L_law (1627, [.ref 1000000, .ref 1, .ref 88, .int (kI (6 * c : Nat))], [], h') Q) : Safe 200 m_L_law (302, [.ref 1000000, .ref 1, .ref 88, .int (kI (6 * c : Nat))], [], h) Q := by
  have I0 := I
  obtain ⟨T, R, s, p, y, v, hs, nx, w, tp, nt, fa, fb, im, C, M, W, O, S, hv, B⟩ := I0
  have F := C.X.B.F
  refine s_L_law_302 ?_
  have a1 : kI ((6 * c : Nat) : Int) + kI 1 = kI ((6 * c + 1 : Nat) : Int) := by rw [kI_add]; rfl
  have x1 : ix (kI ((6 * c + 1 : Nat) : Int)) = 6 * c + 1 := ix_kI (by omega)
  have b1 : inB (kI ((6 * c + 1 : Nat) : Int)) L = true := inB_kI (by omega) (by omega)
  simp only [a1, x1, b1, S.1, S.2.1, S.2.2, kd_1 F, decide_true, Bool.or_true, true_and]
  obtain ⟨x, hx⟩ := op_fault I c5 (xs (6 * c + 1))
  refine GI.use hx (by omega) (fun h1 z => ?_)
  obtain ⟨S1, F1', hm⟩ := z
  simp only [a1, x1, b1, S1.1, S1.2.1, S1.2.2, kd_88 F1', decide_true, Bool.or_true, true_and]
  refine GI.use hm (by omega) (fun h3 I3 => ?_)
  rw [if_pos (by simp)]
  exact K h3 I3
theorem law_cell {L : Nat} {xs : Nat → Int32} {c : Nat} {h : AH} (I : Inv L xs c h) (c5 : c ≤ 600) (hL : 6 * c + 6 ≤ L) (L3 : L ≤ 3072) {Q : Option Value → AH → Prop} (K : ∀ h', Inv L xs (c + 1) h' → Safe 200 m_L_law (1627, [.ref 1000000, .ref 1, .ref 88, .int (kI (6 * c : Nat))], [], h') Q) : Safe 200 m_L_law (325, [.ref 1000000, .ref 1, .ref 88, .int (kI (6 * c : Nat))], [], h) Q := by
  have I0 := I
  obtain ⟨T, R, s, p, y, v, hs, nx, w, tp, nt, fa, fb, im, C, M, W, O, S, hv, B⟩ := I0
  have F := C.X.B.F
  refine s_L_law_325 ?_
  have a1 : kI ((6 * c : Nat) : Int) + kI 1 = kI ((6 * c + 1 : Nat) : Int) := by rw [kI_add]; rfl
  have x1 : ix (kI ((6 * c + 1 : Nat) : Int)) = 6 * c + 1 := ix_kI (by omega)
  have b1 : inB (kI ((6 * c + 1 : Nat) : Int)) L = true := inB_kI (by omega) (by omega)
  have a2 : kI ((6 * c : Nat) : Int) + kI 2 = kI ((6 * c + 2 : Nat) : Int) := by rw [kI_add]; rfl
  have x2 : ix (kI ((6 * c + 2 : Nat) : Int)) = 6 * c + 2 := ix_kI (by omega)
  have b2 : inB (kI ((6 * c + 2 : Nat) : Int)) L = true := inB_kI (by omega) (by omega)
  simp only [a1, a2, x1, x2, b1, b2, S.1, S.2.1, S.2.2, kd_1 F, decide_true, Bool.or_true, true_and]
  obtain ⟨x, hx⟩ := op_cell I c5 (xs (6 * c + 1)) (xs (6 * c + 2))
  refine GI.use hx (by omega) (fun h1 z => ?_)
  obtain ⟨S1, F1', hm⟩ := z
  simp only [a1, a2, x1, x2, b1, b2, S1.1, S1.2.1, S1.2.2, kd_88 F1', decide_true, Bool.or_true, true_and]
  refine GI.use hm (by omega) (fun h3 I3 => ?_)
  rw [if_pos (by simp)]
  exact K h3 I3
theorem law_hand {L : Nat} {xs : Nat → Int32} {c : Nat} {h : AH} (I : Inv L xs c h) (c5 : c ≤ 600) (hL : 6 * c + 6 ≤ L) (L3 : L ≤ 3072) {Q : Option Value → AH → Prop} (K : ∀ h', Inv L xs (c + 1) h' → Safe 200 m_L_law (1627, [.ref 1000000, .ref 1, .ref 88, .int (kI (6 * c : Nat))], [], h') Q) : Safe 200 m_L_law (358, [.ref 1000000, .ref 1, .ref 88, .int (kI (6 * c : Nat))], [], h) Q := by
  have I0 := I
  obtain ⟨T, R, s, p, y, v, hs, nx, w, tp, nt, fa, fb, im, C, M, W, O, S, hv, B⟩ := I0
  have F := C.X.B.F
  refine s_L_law_358 ?_
  have a1 : kI ((6 * c : Nat) : Int) + kI 1 = kI ((6 * c + 1 : Nat) : Int) := by rw [kI_add]; rfl
  have x1 : ix (kI ((6 * c + 1 : Nat) : Int)) = 6 * c + 1 := ix_kI (by omega)
  have b1 : inB (kI ((6 * c + 1 : Nat) : Int)) L = true := inB_kI (by omega) (by omega)
  have a2 : kI ((6 * c : Nat) : Int) + kI 2 = kI ((6 * c + 2 : Nat) : Int) := by rw [kI_add]; rfl
  have x2 : ix (kI ((6 * c + 2 : Nat) : Int)) = 6 * c + 2 := ix_kI (by omega)
  have b2 : inB (kI ((6 * c + 2 : Nat) : Int)) L = true := inB_kI (by omega) (by omega)
  simp only [a1, a2, x1, x2, b1, b2, S.1, S.2.1, S.2.2, kd_1 F, decide_true, Bool.or_true, true_and]
  obtain ⟨x, hx⟩ := op_hand I c5 (xs (6 * c + 1)) (xs (6 * c + 2))
  refine GI.use hx (by omega) (fun h1 z => ?_)
  obtain ⟨S1, F1', hm⟩ := z
  simp only [a1, a2, x1, x2, b1, b2, S1.1, S1.2.1, S1.2.2, kd_88 F1', decide_true, Bool.or_true, true_and]
  refine GI.use hm (by omega) (fun h3 I3 => ?_)
  rw [if_pos (by simp)]
  exact K h3 I3
theorem law_stroke {L : Nat} {xs : Nat → Int32} {c : Nat} {h : AH} (I : Inv L xs c h) (c5 : c ≤ 600) (hL : 6 * c + 6 ≤ L) (L3 : L ≤ 3072) {Q : Option Value → AH → Prop} (K : ∀ h', Inv L xs (c + 1) h' → Safe 200 m_L_law (1627, [.ref 1000000, .ref 1, .ref 88, .int (kI (6 * c : Nat))], [], h') Q) : Safe 200 m_L_law (391, [.ref 1000000, .ref 1, .ref 88, .int (kI (6 * c : Nat))], [], h) Q := by
  have I0 := I
  obtain ⟨T, R, s, p, y, v, hs, nx, w, tp, nt, fa, fb, im, C, M, W, O, S, hv, B⟩ := I0
  have F := C.X.B.F
  refine s_L_law_391 ?_
  have a1 : kI ((6 * c : Nat) : Int) + kI 1 = kI ((6 * c + 1 : Nat) : Int) := by rw [kI_add]; rfl
  have x1 : ix (kI ((6 * c + 1 : Nat) : Int)) = 6 * c + 1 := ix_kI (by omega)
  have b1 : inB (kI ((6 * c + 1 : Nat) : Int)) L = true := inB_kI (by omega) (by omega)
  have a2 : kI ((6 * c : Nat) : Int) + kI 2 = kI ((6 * c + 2 : Nat) : Int) := by rw [kI_add]; rfl
  have x2 : ix (kI ((6 * c + 2 : Nat) : Int)) = 6 * c + 2 := ix_kI (by omega)
  have b2 : inB (kI ((6 * c + 2 : Nat) : Int)) L = true := inB_kI (by omega) (by omega)
  simp only [a1, a2, x1, x2, b1, b2, S.1, S.2.1, S.2.2, kd_1 F, decide_true, Bool.or_true, true_and]
  obtain ⟨x, hx⟩ := op_stroke I c5 (xs (6 * c + 1)) (xs (6 * c + 2))
  refine GI.use hx (by omega) (fun h1 z => ?_)
  obtain ⟨S1, F1', hm⟩ := z
  simp only [a1, a2, x1, x2, b1, b2, S1.1, S1.2.1, S1.2.2, kd_88 F1', decide_true, Bool.or_true, true_and]
  refine GI.use hm (by omega) (fun h3 I3 => ?_)
  rw [if_pos (by simp)]
  exact K h3 I3
theorem law_rub {L : Nat} {xs : Nat → Int32} {c : Nat} {h : AH} (I : Inv L xs c h) (c5 : c ≤ 600) (hL : 6 * c + 6 ≤ L) (L3 : L ≤ 3072) {Q : Option Value → AH → Prop} (K : ∀ h', Inv L xs (c + 1) h' → Safe 200 m_L_law (1627, [.ref 1000000, .ref 1, .ref 88, .int (kI (6 * c : Nat))], [], h') Q) : Safe 200 m_L_law (424, [.ref 1000000, .ref 1, .ref 88, .int (kI (6 * c : Nat))], [], h) Q := by
  have I0 := I
  obtain ⟨T, R, s, p, y, v, hs, nx, w, tp, nt, fa, fb, im, C, M, W, O, S, hv, B⟩ := I0
  have F := C.X.B.F
  refine s_L_law_424 ?_
  have a1 : kI ((6 * c : Nat) : Int) + kI 1 = kI ((6 * c + 1 : Nat) : Int) := by rw [kI_add]; rfl
  have x1 : ix (kI ((6 * c + 1 : Nat) : Int)) = 6 * c + 1 := ix_kI (by omega)
  have b1 : inB (kI ((6 * c + 1 : Nat) : Int)) L = true := inB_kI (by omega) (by omega)
  simp only [a1, x1, b1, S.1, S.2.1, S.2.2, kd_1 F, decide_true, Bool.or_true, true_and]
  obtain ⟨x, hx⟩ := op_rub I c5 (xs (6 * c + 1))
  refine GI.use hx (by omega) (fun h1 z => ?_)
  obtain ⟨S1, F1', hm⟩ := z
  simp only [a1, x1, b1, S1.1, S1.2.1, S1.2.2, kd_88 F1', decide_true, Bool.or_true, true_and]
  refine GI.use hm (by omega) (fun h3 I3 => ?_)
  rw [if_pos (by simp)]
  exact K h3 I3
theorem law_habit {L : Nat} {xs : Nat → Int32} {c : Nat} {h : AH} (I : Inv L xs c h) (c5 : c ≤ 600) (hL : 6 * c + 6 ≤ L) (L3 : L ≤ 3072) {Q : Option Value → AH → Prop} (K : ∀ h', Inv L xs (c + 1) h' → Safe 200 m_L_law (1627, [.ref 1000000, .ref 1, .ref 88, .int (kI (6 * c : Nat))], [], h') Q) : Safe 200 m_L_law (447, [.ref 1000000, .ref 1, .ref 88, .int (kI (6 * c : Nat))], [], h) Q := by
  have I0 := I
  obtain ⟨T, R, s, p, y, v, hs, nx, w, tp, nt, fa, fb, im, C, M, W, O, S, hv, B⟩ := I0
  have F := C.X.B.F
  refine s_L_law_447 ?_
  have a1 : kI ((6 * c : Nat) : Int) + kI 1 = kI ((6 * c + 1 : Nat) : Int) := by rw [kI_add]; rfl
  have x1 : ix (kI ((6 * c + 1 : Nat) : Int)) = 6 * c + 1 := ix_kI (by omega)
  have b1 : inB (kI ((6 * c + 1 : Nat) : Int)) L = true := inB_kI (by omega) (by omega)
  have a2 : kI ((6 * c : Nat) : Int) + kI 2 = kI ((6 * c + 2 : Nat) : Int) := by rw [kI_add]; rfl
  have x2 : ix (kI ((6 * c + 2 : Nat) : Int)) = 6 * c + 2 := ix_kI (by omega)
  have b2 : inB (kI ((6 * c + 2 : Nat) : Int)) L = true := inB_kI (by omega) (by omega)
  simp only [a1, a2, x1, x2, b1, b2, S.1, S.2.1, S.2.2, kd_1 F, decide_true, Bool.or_true, true_and]
  obtain ⟨x, hx⟩ := op_habit I c5 (xs (6 * c + 1)) (xs (6 * c + 2))
  refine GI.use hx (by omega) (fun h1 z => ?_)
  obtain ⟨S1, F1', hm⟩ := z
  simp only [a1, a2, x1, x2, b1, b2, S1.1, S1.2.1, S1.2.2, kd_88 F1', decide_true, Bool.or_true, true_and]
  refine GI.use hm (by omega) (fun h3 I3 => ?_)
  rw [if_pos (by simp)]
  exact K h3 I3
theorem law_hide {L : Nat} {xs : Nat → Int32} {c : Nat} {h : AH} (I : Inv L xs c h) (c5 : c ≤ 600) (hL : 6 * c + 6 ≤ L) (L3 : L ≤ 3072) {Q : Option Value → AH → Prop} (K : ∀ h', Inv L xs (c + 1) h' → Safe 200 m_L_law (1627, [.ref 1000000, .ref 1, .ref 88, .int (kI (6 * c : Nat))], [], h') Q) : Safe 200 m_L_law (480, [.ref 1000000, .ref 1, .ref 88, .int (kI (6 * c : Nat))], [], h) Q := by
  have I0 := I
  obtain ⟨T, R, s, p, y, v, hs, nx, w, tp, nt, fa, fb, im, C, M, W, O, S, hv, B⟩ := I0
  have F := C.X.B.F
  refine s_L_law_480 ?_
  have a1 : kI ((6 * c : Nat) : Int) + kI 1 = kI ((6 * c + 1 : Nat) : Int) := by rw [kI_add]; rfl
  have x1 : ix (kI ((6 * c + 1 : Nat) : Int)) = 6 * c + 1 := ix_kI (by omega)
  have b1 : inB (kI ((6 * c + 1 : Nat) : Int)) L = true := inB_kI (by omega) (by omega)
  simp only [a1, x1, b1, S.1, S.2.1, S.2.2, kd_1 F, decide_true, Bool.or_true, true_and]
  obtain ⟨x, hx⟩ := op_hide I c5 (xs (6 * c + 1))
  refine GI.use hx (by omega) (fun h1 z => ?_)
  obtain ⟨S1, F1', hm⟩ := z
  simp only [a1, x1, b1, S1.1, S1.2.1, S1.2.2, kd_88 F1', decide_true, Bool.or_true, true_and]
  refine GI.use hm (by omega) (fun h3 I3 => ?_)
  rw [if_pos (by simp)]
  exact K h3 I3
theorem law_undo {L : Nat} {xs : Nat → Int32} {c : Nat} {h : AH} (I : Inv L xs c h) (c5 : c ≤ 600) (hL : 6 * c + 6 ≤ L) (L3 : L ≤ 3072) {Q : Option Value → AH → Prop} (K : ∀ h', Inv L xs (c + 1) h' → Safe 200 m_L_law (1627, [.ref 1000000, .ref 1, .ref 88, .int (kI (6 * c : Nat))], [], h') Q) : Safe 200 m_L_law (503, [.ref 1000000, .ref 1, .ref 88, .int (kI (6 * c : Nat))], [], h) Q := by
  have I0 := I
  obtain ⟨T, R, s, p, y, v, hs, nx, w, tp, nt, fa, fb, im, C, M, W, O, S, hv, B⟩ := I0
  have F := C.X.B.F
  refine s_L_law_503 ?_
  have a1 : kI ((6 * c : Nat) : Int) + kI 1 = kI ((6 * c + 1 : Nat) : Int) := by rw [kI_add]; rfl
  have x1 : ix (kI ((6 * c + 1 : Nat) : Int)) = 6 * c + 1 := ix_kI (by omega)
  have b1 : inB (kI ((6 * c + 1 : Nat) : Int)) L = true := inB_kI (by omega) (by omega)
  simp only [a1, x1, b1, S.1, S.2.1, S.2.2, kd_1 F, decide_true, Bool.or_true, true_and]
  obtain ⟨x, hx⟩ := op_undo I c5 (xs (6 * c + 1))
  refine GI.use hx (by omega) (fun h1 z => ?_)
  obtain ⟨S1, F1', hm⟩ := z
  simp only [a1, x1, b1, S1.1, S1.2.1, S1.2.2, kd_88 F1', decide_true, Bool.or_true, true_and]
  refine GI.use hm (by omega) (fun h3 I3 => ?_)
  rw [if_pos (by simp)]
  exact K h3 I3
theorem law_judge {L : Nat} {xs : Nat → Int32} {c : Nat} {h : AH} (I : Inv L xs c h) (c5 : c ≤ 600) (hL : 6 * c + 6 ≤ L) (L3 : L ≤ 3072) {Q : Option Value → AH → Prop} (K : ∀ h', Inv L xs (c + 1) h' → Safe 200 m_L_law (1627, [.ref 1000000, .ref 1, .ref 88, .int (kI (6 * c : Nat))], [], h') Q) : Safe 200 m_L_law (526, [.ref 1000000, .ref 1, .ref 88, .int (kI (6 * c : Nat))], [], h) Q := by
  have I0 := I
  obtain ⟨T, R, s, p, y, v, hs, nx, w, tp, nt, fa, fb, im, C, M, W, O, S, hv, B⟩ := I0
  have F := C.X.B.F
  refine s_L_law_526 ?_
  have a1 : kI ((6 * c : Nat) : Int) + kI 1 = kI ((6 * c + 1 : Nat) : Int) := by rw [kI_add]; rfl
  have x1 : ix (kI ((6 * c + 1 : Nat) : Int)) = 6 * c + 1 := ix_kI (by omega)
  have b1 : inB (kI ((6 * c + 1 : Nat) : Int)) L = true := inB_kI (by omega) (by omega)
  have a2 : kI ((6 * c : Nat) : Int) + kI 2 = kI ((6 * c + 2 : Nat) : Int) := by rw [kI_add]; rfl
  have x2 : ix (kI ((6 * c + 2 : Nat) : Int)) = 6 * c + 2 := ix_kI (by omega)
  have b2 : inB (kI ((6 * c + 2 : Nat) : Int)) L = true := inB_kI (by omega) (by omega)
  simp only [a1, a2, x1, x2, b1, b2, S.1, S.2.1, S.2.2, kd_1 F, decide_true, Bool.or_true, true_and]
  obtain ⟨x, hx⟩ := op_judge I c5 (xs (6 * c + 1)) (xs (6 * c + 2))
  refine GI.use hx (by omega) (fun h1 z => ?_)
  obtain ⟨S1, F1', hm⟩ := z
  simp only [a1, a2, x1, x2, b1, b2, S1.1, S1.2.1, S1.2.2, kd_88 F1', decide_true, Bool.or_true, true_and]
  refine GI.use hm (by omega) (fun h3 I3 => ?_)
  rw [if_pos (by simp)]
  exact K h3 I3
theorem law_perform {L : Nat} {xs : Nat → Int32} {c : Nat} {h : AH} (I : Inv L xs c h) (c5 : c ≤ 600) (hL : 6 * c + 6 ≤ L) (L3 : L ≤ 3072) {Q : Option Value → AH → Prop} (K : ∀ h', Inv L xs (c + 1) h' → Safe 200 m_L_law (1627, [.ref 1000000, .ref 1, .ref 88, .int (kI (6 * c : Nat))], [], h') Q) : Safe 200 m_L_law (559, [.ref 1000000, .ref 1, .ref 88, .int (kI (6 * c : Nat))], [], h) Q := by
  have I0 := I
  obtain ⟨T, R, s, p, y, v, hs, nx, w, tp, nt, fa, fb, im, C, M, W, O, S, hv, B⟩ := I0
  have F := C.X.B.F
  refine s_L_law_559 ?_
  have a1 : kI ((6 * c : Nat) : Int) + kI 1 = kI ((6 * c + 1 : Nat) : Int) := by rw [kI_add]; rfl
  have x1 : ix (kI ((6 * c + 1 : Nat) : Int)) = 6 * c + 1 := ix_kI (by omega)
  have b1 : inB (kI ((6 * c + 1 : Nat) : Int)) L = true := inB_kI (by omega) (by omega)
  simp only [a1, x1, b1, S.1, S.2.1, S.2.2, kd_1 F, decide_true, Bool.or_true, true_and]
  obtain ⟨x, hx⟩ := op_perform I c5 (xs (6 * c + 1))
  refine GI.use hx (by omega) (fun h1 z => ?_)
  obtain ⟨S1, F1', hm⟩ := z
  simp only [a1, x1, b1, S1.1, S1.2.1, S1.2.2, kd_88 F1', decide_true, Bool.or_true, true_and]
  refine GI.use hm (by omega) (fun h3 I3 => ?_)
  rw [if_pos (by simp)]
  exact K h3 I3
theorem law_night {L : Nat} {xs : Nat → Int32} {c : Nat} {h : AH} (I : Inv L xs c h) (c5 : c ≤ 600) (hL : 6 * c + 6 ≤ L) (L3 : L ≤ 3072) {Q : Option Value → AH → Prop} (K : ∀ h', Inv L xs (c + 1) h' → Safe 200 m_L_law (1627, [.ref 1000000, .ref 1, .ref 88, .int (kI (6 * c : Nat))], [], h') Q) : Safe 200 m_L_law (582, [.ref 1000000, .ref 1, .ref 88, .int (kI (6 * c : Nat))], [], h) Q := by
  have I0 := I
  obtain ⟨T, R, s, p, y, v, hs, nx, w, tp, nt, fa, fb, im, C, M, W, O, S, hv, B⟩ := I0
  have F := C.X.B.F
  refine s_L_law_582 ?_
  have a1 : kI ((6 * c : Nat) : Int) + kI 1 = kI ((6 * c + 1 : Nat) : Int) := by rw [kI_add]; rfl
  have x1 : ix (kI ((6 * c + 1 : Nat) : Int)) = 6 * c + 1 := ix_kI (by omega)
  have b1 : inB (kI ((6 * c + 1 : Nat) : Int)) L = true := inB_kI (by omega) (by omega)
  have a2 : kI ((6 * c : Nat) : Int) + kI 2 = kI ((6 * c + 2 : Nat) : Int) := by rw [kI_add]; rfl
  have x2 : ix (kI ((6 * c + 2 : Nat) : Int)) = 6 * c + 2 := ix_kI (by omega)
  have b2 : inB (kI ((6 * c + 2 : Nat) : Int)) L = true := inB_kI (by omega) (by omega)
  simp only [a1, a2, x1, x2, b1, b2, S.1, S.2.1, S.2.2, kd_1 F, decide_true, Bool.or_true, true_and]
  obtain ⟨x, hx⟩ := op_night I c5 (xs (6 * c + 1)) (xs (6 * c + 2))
  refine GI.use hx (by omega) (fun h1 z => ?_)
  obtain ⟨S1, F1', hm⟩ := z
  simp only [a1, a2, x1, x2, b1, b2, S1.1, S1.2.1, S1.2.2, kd_88 F1', decide_true, Bool.or_true, true_and]
  refine GI.use hm (by omega) (fun h3 I3 => ?_)
  rw [if_pos (by simp)]
  exact K h3 I3
theorem law_longest {L : Nat} {xs : Nat → Int32} {c : Nat} {h : AH} (I : Inv L xs c h) (c5 : c ≤ 600) (hL : 6 * c + 6 ≤ L) (L3 : L ≤ 3072) {Q : Option Value → AH → Prop} (K : ∀ h', Inv L xs (c + 1) h' → Safe 200 m_L_law (1627, [.ref 1000000, .ref 1, .ref 88, .int (kI (6 * c : Nat))], [], h') Q) : Safe 200 m_L_law (615, [.ref 1000000, .ref 1, .ref 88, .int (kI (6 * c : Nat))], [], h) Q := by
  have I0 := I
  obtain ⟨T, R, s, p, y, v, hs, nx, w, tp, nt, fa, fb, im, C, M, W, O, S, hv, B⟩ := I0
  have F := C.X.B.F
  refine s_L_law_615 ?_
  have a1 : kI ((6 * c : Nat) : Int) + kI 1 = kI ((6 * c + 1 : Nat) : Int) := by rw [kI_add]; rfl
  have x1 : ix (kI ((6 * c + 1 : Nat) : Int)) = 6 * c + 1 := ix_kI (by omega)
  have b1 : inB (kI ((6 * c + 1 : Nat) : Int)) L = true := inB_kI (by omega) (by omega)
  have a2 : kI ((6 * c : Nat) : Int) + kI 2 = kI ((6 * c + 2 : Nat) : Int) := by rw [kI_add]; rfl
  have x2 : ix (kI ((6 * c + 2 : Nat) : Int)) = 6 * c + 2 := ix_kI (by omega)
  have b2 : inB (kI ((6 * c + 2 : Nat) : Int)) L = true := inB_kI (by omega) (by omega)
  simp only [a1, a2, x1, x2, b1, b2, S.1, S.2.1, S.2.2, kd_1 F, decide_true, Bool.or_true, true_and]
  obtain ⟨x, hx⟩ := op_longest I c5 (xs (6 * c + 1)) (xs (6 * c + 2))
  refine GI.use hx (by omega) (fun h1 z => ?_)
  obtain ⟨S1, F1', hm⟩ := z
  simp only [a1, a2, x1, x2, b1, b2, S1.1, S1.2.1, S1.2.2, kd_88 F1', decide_true, Bool.or_true, true_and]
  refine GI.use hm (by omega) (fun h3 I3 => ?_)
  rw [if_pos (by simp)]
  exact K h3 I3
theorem law_longWay {L : Nat} {xs : Nat → Int32} {c : Nat} {h : AH} (I : Inv L xs c h) (c5 : c ≤ 600) (hL : 6 * c + 6 ≤ L) (L3 : L ≤ 3072) {Q : Option Value → AH → Prop} (K : ∀ h', Inv L xs (c + 1) h' → Safe 200 m_L_law (1627, [.ref 1000000, .ref 1, .ref 88, .int (kI (6 * c : Nat))], [], h') Q) : Safe 200 m_L_law (648, [.ref 1000000, .ref 1, .ref 88, .int (kI (6 * c : Nat))], [], h) Q := by
  have I0 := I
  obtain ⟨T, R, s, p, y, v, hs, nx, w, tp, nt, fa, fb, im, C, M, W, O, S, hv, B⟩ := I0
  have F := C.X.B.F
  refine s_L_law_648 ?_
  have a1 : kI ((6 * c : Nat) : Int) + kI 1 = kI ((6 * c + 1 : Nat) : Int) := by rw [kI_add]; rfl
  have x1 : ix (kI ((6 * c + 1 : Nat) : Int)) = 6 * c + 1 := ix_kI (by omega)
  have b1 : inB (kI ((6 * c + 1 : Nat) : Int)) L = true := inB_kI (by omega) (by omega)
  have a2 : kI ((6 * c : Nat) : Int) + kI 2 = kI ((6 * c + 2 : Nat) : Int) := by rw [kI_add]; rfl
  have x2 : ix (kI ((6 * c + 2 : Nat) : Int)) = 6 * c + 2 := ix_kI (by omega)
  have b2 : inB (kI ((6 * c + 2 : Nat) : Int)) L = true := inB_kI (by omega) (by omega)
  have a3 : kI ((6 * c : Nat) : Int) + kI 3 = kI ((6 * c + 3 : Nat) : Int) := by rw [kI_add]; rfl
  have x3 : ix (kI ((6 * c + 3 : Nat) : Int)) = 6 * c + 3 := ix_kI (by omega)
  have b3 : inB (kI ((6 * c + 3 : Nat) : Int)) L = true := inB_kI (by omega) (by omega)
  simp only [a1, a2, a3, x1, x2, x3, b1, b2, b3, S.1, S.2.1, S.2.2, kd_1 F, decide_true, Bool.or_true, true_and]
  obtain ⟨x, hx⟩ := op_longWay I c5 (xs (6 * c + 1)) (xs (6 * c + 2)) (xs (6 * c + 3))
  refine GI.use hx (by omega) (fun h1 z => ?_)
  obtain ⟨S1, F1', hm⟩ := z
  simp only [a1, a2, a3, x1, x2, x3, b1, b2, b3, S1.1, S1.2.1, S1.2.2, kd_88 F1', decide_true, Bool.or_true, true_and]
  refine GI.use hm (by omega) (fun h3 I3 => ?_)
  rw [if_pos (by simp)]
  exact K h3 I3
theorem law_stuck {L : Nat} {xs : Nat → Int32} {c : Nat} {h : AH} (I : Inv L xs c h) (c5 : c ≤ 600) (hL : 6 * c + 6 ≤ L) (L3 : L ≤ 3072) {Q : Option Value → AH → Prop} (K : ∀ h', Inv L xs (c + 1) h' → Safe 200 m_L_law (1627, [.ref 1000000, .ref 1, .ref 88, .int (kI (6 * c : Nat))], [], h') Q) : Safe 200 m_L_law (691, [.ref 1000000, .ref 1, .ref 88, .int (kI (6 * c : Nat))], [], h) Q := by
  have I0 := I
  obtain ⟨T, R, s, p, y, v, hs, nx, w, tp, nt, fa, fb, im, C, M, W, O, S, hv, B⟩ := I0
  have F := C.X.B.F
  refine s_L_law_691 ?_
  have a1 : kI ((6 * c : Nat) : Int) + kI 1 = kI ((6 * c + 1 : Nat) : Int) := by rw [kI_add]; rfl
  have x1 : ix (kI ((6 * c + 1 : Nat) : Int)) = 6 * c + 1 := ix_kI (by omega)
  have b1 : inB (kI ((6 * c + 1 : Nat) : Int)) L = true := inB_kI (by omega) (by omega)
  simp only [a1, x1, b1, S.1, S.2.1, S.2.2, kd_1 F, decide_true, Bool.or_true, true_and]
  obtain ⟨x, hx⟩ := op_stuck I c5 (xs (6 * c + 1))
  refine GI.use hx (by omega) (fun h1 z => ?_)
  obtain ⟨S1, F1', hm⟩ := z
  simp only [a1, x1, b1, S1.1, S1.2.1, S1.2.2, kd_88 F1', decide_true, Bool.or_true, true_and]
  refine GI.use hm (by omega) (fun h3 I3 => ?_)
  rw [if_pos (by simp)]
  exact K h3 I3
theorem law_stuckWay {L : Nat} {xs : Nat → Int32} {c : Nat} {h : AH} (I : Inv L xs c h) (c5 : c ≤ 600) (hL : 6 * c + 6 ≤ L) (L3 : L ≤ 3072) {Q : Option Value → AH → Prop} (K : ∀ h', Inv L xs (c + 1) h' → Safe 200 m_L_law (1627, [.ref 1000000, .ref 1, .ref 88, .int (kI (6 * c : Nat))], [], h') Q) : Safe 200 m_L_law (714, [.ref 1000000, .ref 1, .ref 88, .int (kI (6 * c : Nat))], [], h) Q := by
  have I0 := I
  obtain ⟨T, R, s, p, y, v, hs, nx, w, tp, nt, fa, fb, im, C, M, W, O, S, hv, B⟩ := I0
  have F := C.X.B.F
  refine s_L_law_714 ?_
  have a1 : kI ((6 * c : Nat) : Int) + kI 1 = kI ((6 * c + 1 : Nat) : Int) := by rw [kI_add]; rfl
  have x1 : ix (kI ((6 * c + 1 : Nat) : Int)) = 6 * c + 1 := ix_kI (by omega)
  have b1 : inB (kI ((6 * c + 1 : Nat) : Int)) L = true := inB_kI (by omega) (by omega)
  have a2 : kI ((6 * c : Nat) : Int) + kI 2 = kI ((6 * c + 2 : Nat) : Int) := by rw [kI_add]; rfl
  have x2 : ix (kI ((6 * c + 2 : Nat) : Int)) = 6 * c + 2 := ix_kI (by omega)
  have b2 : inB (kI ((6 * c + 2 : Nat) : Int)) L = true := inB_kI (by omega) (by omega)
  simp only [a1, a2, x1, x2, b1, b2, S.1, S.2.1, S.2.2, kd_1 F, decide_true, Bool.or_true, true_and]
  obtain ⟨x, hx⟩ := op_stuckWay I c5 (xs (6 * c + 1)) (xs (6 * c + 2))
  refine GI.use hx (by omega) (fun h1 z => ?_)
  obtain ⟨S1, F1', hm⟩ := z
  simp only [a1, a2, x1, x2, b1, b2, S1.1, S1.2.1, S1.2.2, kd_88 F1', decide_true, Bool.or_true, true_and]
  refine GI.use hm (by omega) (fun h3 I3 => ?_)
  rw [if_pos (by simp)]
  exact K h3 I3
theorem law_soonest {L : Nat} {xs : Nat → Int32} {c : Nat} {h : AH} (I : Inv L xs c h) (c5 : c ≤ 600) (hL : 6 * c + 6 ≤ L) (L3 : L ≤ 3072) {Q : Option Value → AH → Prop} (K : ∀ h', Inv L xs (c + 1) h' → Safe 200 m_L_law (1627, [.ref 1000000, .ref 1, .ref 88, .int (kI (6 * c : Nat))], [], h') Q) : Safe 200 m_L_law (747, [.ref 1000000, .ref 1, .ref 88, .int (kI (6 * c : Nat))], [], h) Q := by
  have I0 := I
  obtain ⟨T, R, s, p, y, v, hs, nx, w, tp, nt, fa, fb, im, C, M, W, O, S, hv, B⟩ := I0
  have F := C.X.B.F
  refine s_L_law_747 ?_
  have a1 : kI ((6 * c : Nat) : Int) + kI 1 = kI ((6 * c + 1 : Nat) : Int) := by rw [kI_add]; rfl
  have x1 : ix (kI ((6 * c + 1 : Nat) : Int)) = 6 * c + 1 := ix_kI (by omega)
  have b1 : inB (kI ((6 * c + 1 : Nat) : Int)) L = true := inB_kI (by omega) (by omega)
  have a2 : kI ((6 * c : Nat) : Int) + kI 2 = kI ((6 * c + 2 : Nat) : Int) := by rw [kI_add]; rfl
  have x2 : ix (kI ((6 * c + 2 : Nat) : Int)) = 6 * c + 2 := ix_kI (by omega)
  have b2 : inB (kI ((6 * c + 2 : Nat) : Int)) L = true := inB_kI (by omega) (by omega)
  simp only [a1, a2, x1, x2, b1, b2, S.1, S.2.1, S.2.2, kd_1 F, decide_true, Bool.or_true, true_and]
  obtain ⟨x, hx⟩ := op_soonest I c5 (xs (6 * c + 1)) (xs (6 * c + 2))
  refine GI.use hx (by omega) (fun h1 z => ?_)
  obtain ⟨S1, F1', hm⟩ := z
  simp only [a1, a2, x1, x2, b1, b2, S1.1, S1.2.1, S1.2.2, kd_88 F1', decide_true, Bool.or_true, true_and]
  refine GI.use hm (by omega) (fun h3 I3 => ?_)
  rw [if_pos (by simp)]
  exact K h3 I3
theorem law_way {L : Nat} {xs : Nat → Int32} {c : Nat} {h : AH} (I : Inv L xs c h) (c5 : c ≤ 600) (hL : 6 * c + 6 ≤ L) (L3 : L ≤ 3072) {Q : Option Value → AH → Prop} (K : ∀ h', Inv L xs (c + 1) h' → Safe 200 m_L_law (1627, [.ref 1000000, .ref 1, .ref 88, .int (kI (6 * c : Nat))], [], h') Q) : Safe 200 m_L_law (780, [.ref 1000000, .ref 1, .ref 88, .int (kI (6 * c : Nat))], [], h) Q := by
  have I0 := I
  obtain ⟨T, R, s, p, y, v, hs, nx, w, tp, nt, fa, fb, im, C, M, W, O, S, hv, B⟩ := I0
  have F := C.X.B.F
  refine s_L_law_780 ?_
  have a1 : kI ((6 * c : Nat) : Int) + kI 1 = kI ((6 * c + 1 : Nat) : Int) := by rw [kI_add]; rfl
  have x1 : ix (kI ((6 * c + 1 : Nat) : Int)) = 6 * c + 1 := ix_kI (by omega)
  have b1 : inB (kI ((6 * c + 1 : Nat) : Int)) L = true := inB_kI (by omega) (by omega)
  have a2 : kI ((6 * c : Nat) : Int) + kI 2 = kI ((6 * c + 2 : Nat) : Int) := by rw [kI_add]; rfl
  have x2 : ix (kI ((6 * c + 2 : Nat) : Int)) = 6 * c + 2 := ix_kI (by omega)
  have b2 : inB (kI ((6 * c + 2 : Nat) : Int)) L = true := inB_kI (by omega) (by omega)
  have a3 : kI ((6 * c : Nat) : Int) + kI 3 = kI ((6 * c + 3 : Nat) : Int) := by rw [kI_add]; rfl
  have x3 : ix (kI ((6 * c + 3 : Nat) : Int)) = 6 * c + 3 := ix_kI (by omega)
  have b3 : inB (kI ((6 * c + 3 : Nat) : Int)) L = true := inB_kI (by omega) (by omega)
  simp only [a1, a2, a3, x1, x2, x3, b1, b2, b3, S.1, S.2.1, S.2.2, kd_1 F, decide_true, Bool.or_true, true_and]
  obtain ⟨x, hx⟩ := op_way I c5 (xs (6 * c + 1)) (xs (6 * c + 2)) (xs (6 * c + 3))
  refine GI.use hx (by omega) (fun h1 z => ?_)
  obtain ⟨S1, F1', hm⟩ := z
  simp only [a1, a2, a3, x1, x2, x3, b1, b2, b3, S1.1, S1.2.1, S1.2.2, kd_88 F1', decide_true, Bool.or_true, true_and]
  refine GI.use hm (by omega) (fun h3 I3 => ?_)
  rw [if_pos (by simp)]
  exact K h3 I3
theorem law_reach {L : Nat} {xs : Nat → Int32} {c : Nat} {h : AH} (I : Inv L xs c h) (c5 : c ≤ 600) (hL : 6 * c + 6 ≤ L) (L3 : L ≤ 3072) {Q : Option Value → AH → Prop} (K : ∀ h', Inv L xs (c + 1) h' → Safe 200 m_L_law (1627, [.ref 1000000, .ref 1, .ref 88, .int (kI (6 * c : Nat))], [], h') Q) : Safe 200 m_L_law (823, [.ref 1000000, .ref 1, .ref 88, .int (kI (6 * c : Nat))], [], h) Q := by
  have I0 := I
  obtain ⟨T, R, s, p, y, v, hs, nx, w, tp, nt, fa, fb, im, C, M, W, O, S, hv, B⟩ := I0
  have F := C.X.B.F
  refine s_L_law_823 ?_
  have a1 : kI ((6 * c : Nat) : Int) + kI 1 = kI ((6 * c + 1 : Nat) : Int) := by rw [kI_add]; rfl
  have x1 : ix (kI ((6 * c + 1 : Nat) : Int)) = 6 * c + 1 := ix_kI (by omega)
  have b1 : inB (kI ((6 * c + 1 : Nat) : Int)) L = true := inB_kI (by omega) (by omega)
  simp only [a1, x1, b1, S.1, S.2.1, S.2.2, kd_1 F, decide_true, Bool.or_true, true_and]
  obtain ⟨x, hx⟩ := op_reach I c5 (xs (6 * c + 1))
  refine GI.use hx (by omega) (fun h1 z => ?_)
  obtain ⟨S1, F1', hm⟩ := z
  simp only [a1, x1, b1, S1.1, S1.2.1, S1.2.2, kd_88 F1', decide_true, Bool.or_true, true_and]
  refine GI.use hm (by omega) (fun h3 I3 => ?_)
  rw [if_pos (by simp)]
  exact K h3 I3
theorem law_ahead {L : Nat} {xs : Nat → Int32} {c : Nat} {h : AH} (I : Inv L xs c h) (c5 : c ≤ 600) (hL : 6 * c + 6 ≤ L) (L3 : L ≤ 3072) {Q : Option Value → AH → Prop} (K : ∀ h', Inv L xs (c + 1) h' → Safe 200 m_L_law (1627, [.ref 1000000, .ref 1, .ref 88, .int (kI (6 * c : Nat))], [], h') Q) : Safe 200 m_L_law (846, [.ref 1000000, .ref 1, .ref 88, .int (kI (6 * c : Nat))], [], h) Q := by
  have I0 := I
  obtain ⟨T, R, s, p, y, v, hs, nx, w, tp, nt, fa, fb, im, C, M, W, O, S, hv, B⟩ := I0
  have F := C.X.B.F
  refine s_L_law_846 ?_
  have a1 : kI ((6 * c : Nat) : Int) + kI 1 = kI ((6 * c + 1 : Nat) : Int) := by rw [kI_add]; rfl
  have x1 : ix (kI ((6 * c + 1 : Nat) : Int)) = 6 * c + 1 := ix_kI (by omega)
  have b1 : inB (kI ((6 * c + 1 : Nat) : Int)) L = true := inB_kI (by omega) (by omega)
  have a2 : kI ((6 * c : Nat) : Int) + kI 2 = kI ((6 * c + 2 : Nat) : Int) := by rw [kI_add]; rfl
  have x2 : ix (kI ((6 * c + 2 : Nat) : Int)) = 6 * c + 2 := ix_kI (by omega)
  have b2 : inB (kI ((6 * c + 2 : Nat) : Int)) L = true := inB_kI (by omega) (by omega)
  simp only [a1, a2, x1, x2, b1, b2, S.1, S.2.1, S.2.2, kd_1 F, decide_true, Bool.or_true, true_and]
  obtain ⟨x, hx⟩ := op_ahead I c5 (xs (6 * c + 1)) (xs (6 * c + 2))
  refine GI.use hx (by omega) (fun h1 z => ?_)
  obtain ⟨S1, F1', hm⟩ := z
  simp only [a1, a2, x1, x2, b1, b2, S1.1, S1.2.1, S1.2.2, kd_88 F1', decide_true, Bool.or_true, true_and]
  refine GI.use hm (by omega) (fun h3 I3 => ?_)
  rw [if_pos (by simp)]
  exact K h3 I3
theorem law_rows {L : Nat} {xs : Nat → Int32} {c : Nat} {h : AH} (I : Inv L xs c h) (c5 : c ≤ 600) (hL : 6 * c + 6 ≤ L) (L3 : L ≤ 3072) {Q : Option Value → AH → Prop} (K : ∀ h', Inv L xs (c + 1) h' → Safe 200 m_L_law (1627, [.ref 1000000, .ref 1, .ref 88, .int (kI (6 * c : Nat))], [], h') Q) : Safe 200 m_L_law (879, [.ref 1000000, .ref 1, .ref 88, .int (kI (6 * c : Nat))], [], h) Q := by
  have I0 := I
  obtain ⟨T, R, s, p, y, v, hs, nx, w, tp, nt, fa, fb, im, C, M, W, O, S, hv, B⟩ := I0
  have F := C.X.B.F
  refine s_L_law_879 ?_
  have a1 : kI ((6 * c : Nat) : Int) + kI 1 = kI ((6 * c + 1 : Nat) : Int) := by rw [kI_add]; rfl
  have x1 : ix (kI ((6 * c + 1 : Nat) : Int)) = 6 * c + 1 := ix_kI (by omega)
  have b1 : inB (kI ((6 * c + 1 : Nat) : Int)) L = true := inB_kI (by omega) (by omega)
  have a2 : kI ((6 * c : Nat) : Int) + kI 2 = kI ((6 * c + 2 : Nat) : Int) := by rw [kI_add]; rfl
  have x2 : ix (kI ((6 * c + 2 : Nat) : Int)) = 6 * c + 2 := ix_kI (by omega)
  have b2 : inB (kI ((6 * c + 2 : Nat) : Int)) L = true := inB_kI (by omega) (by omega)
  simp only [a1, a2, x1, x2, b1, b2, S.1, S.2.1, S.2.2, kd_1 F, decide_true, Bool.or_true, true_and]
  obtain ⟨x, hx⟩ := op_rows I c5 (xs (6 * c + 1)) (xs (6 * c + 2))
  refine GJ.use hx (by omega) (fun h1 z => ?_)
  obtain ⟨S1, F1', hm⟩ := z
  simp only [a1, a2, x1, x2, b1, b2, S1.1, S1.2.1, S1.2.2, kd_88 F1', decide_true, Bool.or_true, true_and]
  refine GJ.use hm (by omega) (fun h3 I3 => ?_)
  rw [if_pos (lg_self x)]
  exact K h3 I3
theorem law_ends {L : Nat} {xs : Nat → Int32} {c : Nat} {h : AH} (I : Inv L xs c h) (c5 : c ≤ 600) (hL : 6 * c + 6 ≤ L) (L3 : L ≤ 3072) {Q : Option Value → AH → Prop} (K : ∀ h', Inv L xs (c + 1) h' → Safe 200 m_L_law (1627, [.ref 1000000, .ref 1, .ref 88, .int (kI (6 * c : Nat))], [], h') Q) : Safe 200 m_L_law (913, [.ref 1000000, .ref 1, .ref 88, .int (kI (6 * c : Nat))], [], h) Q := by
  have I0 := I
  obtain ⟨T, R, s, p, y, v, hs, nx, w, tp, nt, fa, fb, im, C, M, W, O, S, hv, B⟩ := I0
  have F := C.X.B.F
  refine s_L_law_913 ?_
  have a1 : kI ((6 * c : Nat) : Int) + kI 1 = kI ((6 * c + 1 : Nat) : Int) := by rw [kI_add]; rfl
  have x1 : ix (kI ((6 * c + 1 : Nat) : Int)) = 6 * c + 1 := ix_kI (by omega)
  have b1 : inB (kI ((6 * c + 1 : Nat) : Int)) L = true := inB_kI (by omega) (by omega)
  simp only [a1, x1, b1, S.1, S.2.1, S.2.2, kd_1 F, decide_true, Bool.or_true, true_and]
  obtain ⟨x, hx⟩ := op_ends I c5 (xs (6 * c + 1))
  refine GJ.use hx (by omega) (fun h1 z => ?_)
  obtain ⟨S1, F1', hm⟩ := z
  simp only [a1, x1, b1, S1.1, S1.2.1, S1.2.2, kd_88 F1', decide_true, Bool.or_true, true_and]
  refine GJ.use hm (by omega) (fun h3 I3 => ?_)
  rw [if_pos (lg_self x)]
  exact K h3 I3
theorem law_likely {L : Nat} {xs : Nat → Int32} {c : Nat} {h : AH} (I : Inv L xs c h) (c5 : c ≤ 600) (hL : 6 * c + 6 ≤ L) (L3 : L ≤ 3072) {Q : Option Value → AH → Prop} (K : ∀ h', Inv L xs (c + 1) h' → Safe 200 m_L_law (1627, [.ref 1000000, .ref 1, .ref 88, .int (kI (6 * c : Nat))], [], h') Q) : Safe 200 m_L_law (937, [.ref 1000000, .ref 1, .ref 88, .int (kI (6 * c : Nat))], [], h) Q := by
  have I0 := I
  obtain ⟨T, R, s, p, y, v, hs, nx, w, tp, nt, fa, fb, im, C, M, W, O, S, hv, B⟩ := I0
  have F := C.X.B.F
  refine s_L_law_937 ?_
  have a1 : kI ((6 * c : Nat) : Int) + kI 1 = kI ((6 * c + 1 : Nat) : Int) := by rw [kI_add]; rfl
  have x1 : ix (kI ((6 * c + 1 : Nat) : Int)) = 6 * c + 1 := ix_kI (by omega)
  have b1 : inB (kI ((6 * c + 1 : Nat) : Int)) L = true := inB_kI (by omega) (by omega)
  have a2 : kI ((6 * c : Nat) : Int) + kI 2 = kI ((6 * c + 2 : Nat) : Int) := by rw [kI_add]; rfl
  have x2 : ix (kI ((6 * c + 2 : Nat) : Int)) = 6 * c + 2 := ix_kI (by omega)
  have b2 : inB (kI ((6 * c + 2 : Nat) : Int)) L = true := inB_kI (by omega) (by omega)
  simp only [a1, a2, x1, x2, b1, b2, S.1, S.2.1, S.2.2, kd_1 F, decide_true, Bool.or_true, true_and]
  obtain ⟨x, hx⟩ := op_likely I c5 (xs (6 * c + 1)) (xs (6 * c + 2))
  refine GI.use hx (by omega) (fun h1 z => ?_)
  obtain ⟨S1, F1', hm⟩ := z
  simp only [a1, a2, x1, x2, b1, b2, S1.1, S1.2.1, S1.2.2, kd_88 F1', decide_true, Bool.or_true, true_and]
  refine GI.use hm (by omega) (fun h3 I3 => ?_)
  rw [if_pos (by simp)]
  exact K h3 I3
theorem law_safest {L : Nat} {xs : Nat → Int32} {c : Nat} {h : AH} (I : Inv L xs c h) (c5 : c ≤ 600) (hL : 6 * c + 6 ≤ L) (L3 : L ≤ 3072) {Q : Option Value → AH → Prop} (K : ∀ h', Inv L xs (c + 1) h' → Safe 200 m_L_law (1627, [.ref 1000000, .ref 1, .ref 88, .int (kI (6 * c : Nat))], [], h') Q) : Safe 200 m_L_law (970, [.ref 1000000, .ref 1, .ref 88, .int (kI (6 * c : Nat))], [], h) Q := by
  have I0 := I
  obtain ⟨T, R, s, p, y, v, hs, nx, w, tp, nt, fa, fb, im, C, M, W, O, S, hv, B⟩ := I0
  have F := C.X.B.F
  refine s_L_law_970 ?_
  have a1 : kI ((6 * c : Nat) : Int) + kI 1 = kI ((6 * c + 1 : Nat) : Int) := by rw [kI_add]; rfl
  have x1 : ix (kI ((6 * c + 1 : Nat) : Int)) = 6 * c + 1 := ix_kI (by omega)
  have b1 : inB (kI ((6 * c + 1 : Nat) : Int)) L = true := inB_kI (by omega) (by omega)
  have a2 : kI ((6 * c : Nat) : Int) + kI 2 = kI ((6 * c + 2 : Nat) : Int) := by rw [kI_add]; rfl
  have x2 : ix (kI ((6 * c + 2 : Nat) : Int)) = 6 * c + 2 := ix_kI (by omega)
  have b2 : inB (kI ((6 * c + 2 : Nat) : Int)) L = true := inB_kI (by omega) (by omega)
  have a3 : kI ((6 * c : Nat) : Int) + kI 3 = kI ((6 * c + 3 : Nat) : Int) := by rw [kI_add]; rfl
  have x3 : ix (kI ((6 * c + 3 : Nat) : Int)) = 6 * c + 3 := ix_kI (by omega)
  have b3 : inB (kI ((6 * c + 3 : Nat) : Int)) L = true := inB_kI (by omega) (by omega)
  simp only [a1, a2, a3, x1, x2, x3, b1, b2, b3, S.1, S.2.1, S.2.2, kd_1 F, decide_true, Bool.or_true, true_and]
  obtain ⟨x, hx⟩ := op_safest I c5 (xs (6 * c + 1)) (xs (6 * c + 2)) (xs (6 * c + 3))
  refine GI.use hx (by omega) (fun h1 z => ?_)
  obtain ⟨S1, F1', hm⟩ := z
  simp only [a1, a2, a3, x1, x2, x3, b1, b2, b3, S1.1, S1.2.1, S1.2.2, kd_88 F1', decide_true, Bool.or_true, true_and]
  refine GI.use hm (by omega) (fun h3 I3 => ?_)
  rw [if_pos (by simp)]
  exact K h3 I3
theorem law_likeliest {L : Nat} {xs : Nat → Int32} {c : Nat} {h : AH} (I : Inv L xs c h) (c5 : c ≤ 600) (hL : 6 * c + 6 ≤ L) (L3 : L ≤ 3072) {Q : Option Value → AH → Prop} (K : ∀ h', Inv L xs (c + 1) h' → Safe 200 m_L_law (1627, [.ref 1000000, .ref 1, .ref 88, .int (kI (6 * c : Nat))], [], h') Q) : Safe 200 m_L_law (1013, [.ref 1000000, .ref 1, .ref 88, .int (kI (6 * c : Nat))], [], h) Q := by
  have I0 := I
  obtain ⟨T, R, s, p, y, v, hs, nx, w, tp, nt, fa, fb, im, C, M, W, O, S, hv, B⟩ := I0
  have F := C.X.B.F
  refine s_L_law_1013 ?_
  simp only [kd_1 F, decide_true, true_and]
  obtain ⟨x, hx⟩ := op_likeliest I c5
  refine GI.use hx (by omega) (fun h1 z => ?_)
  obtain ⟨S1, F1', hm⟩ := z
  simp only [kd_88 F1', decide_true, true_and]
  refine GI.use hm (by omega) (fun h3 I3 => ?_)
  rw [if_pos (by simp)]
  exact K h3 I3
theorem law_wins {L : Nat} {xs : Nat → Int32} {c : Nat} {h : AH} (I : Inv L xs c h) (c5 : c ≤ 600) (hL : 6 * c + 6 ≤ L) (L3 : L ≤ 3072) {Q : Option Value → AH → Prop} (K : ∀ h', Inv L xs (c + 1) h' → Safe 200 m_L_law (1627, [.ref 1000000, .ref 1, .ref 88, .int (kI (6 * c : Nat))], [], h') Q) : Safe 200 m_L_law (1026, [.ref 1000000, .ref 1, .ref 88, .int (kI (6 * c : Nat))], [], h) Q := by
  have I0 := I
  obtain ⟨T, R, s, p, y, v, hs, nx, w, tp, nt, fa, fb, im, C, M, W, O, S, hv, B⟩ := I0
  have F := C.X.B.F
  refine s_L_law_1026 ?_
  have a1 : kI ((6 * c : Nat) : Int) + kI 1 = kI ((6 * c + 1 : Nat) : Int) := by rw [kI_add]; rfl
  have x1 : ix (kI ((6 * c + 1 : Nat) : Int)) = 6 * c + 1 := ix_kI (by omega)
  have b1 : inB (kI ((6 * c + 1 : Nat) : Int)) L = true := inB_kI (by omega) (by omega)
  have a2 : kI ((6 * c : Nat) : Int) + kI 2 = kI ((6 * c + 2 : Nat) : Int) := by rw [kI_add]; rfl
  have x2 : ix (kI ((6 * c + 2 : Nat) : Int)) = 6 * c + 2 := ix_kI (by omega)
  have b2 : inB (kI ((6 * c + 2 : Nat) : Int)) L = true := inB_kI (by omega) (by omega)
  have a3 : kI ((6 * c : Nat) : Int) + kI 3 = kI ((6 * c + 3 : Nat) : Int) := by rw [kI_add]; rfl
  have x3 : ix (kI ((6 * c + 3 : Nat) : Int)) = 6 * c + 3 := ix_kI (by omega)
  have b3 : inB (kI ((6 * c + 3 : Nat) : Int)) L = true := inB_kI (by omega) (by omega)
  simp only [a1, a2, a3, x1, x2, x3, b1, b2, b3, S.1, S.2.1, S.2.2, kd_1 F, decide_true, Bool.or_true, true_and]
  obtain ⟨x, hx⟩ := op_wins I c5 (xs (6 * c + 1)) (xs (6 * c + 2)) (xs (6 * c + 3))
  refine GI.use hx (by omega) (fun h1 z => ?_)
  obtain ⟨S1, F1', hm⟩ := z
  simp only [a1, a2, a3, x1, x2, x3, b1, b2, b3, S1.1, S1.2.1, S1.2.2, kd_88 F1', decide_true, Bool.or_true, true_and]
  refine GI.use hm (by omega) (fun h3 I3 => ?_)
  rw [if_pos (by simp)]
  exact K h3 I3
theorem law_best {L : Nat} {xs : Nat → Int32} {c : Nat} {h : AH} (I : Inv L xs c h) (c5 : c ≤ 600) (hL : 6 * c + 6 ≤ L) (L3 : L ≤ 3072) {Q : Option Value → AH → Prop} (K : ∀ h', Inv L xs (c + 1) h' → Safe 200 m_L_law (1627, [.ref 1000000, .ref 1, .ref 88, .int (kI (6 * c : Nat))], [], h') Q) : Safe 200 m_L_law (1069, [.ref 1000000, .ref 1, .ref 88, .int (kI (6 * c : Nat))], [], h) Q := by
  have I0 := I
  obtain ⟨T, R, s, p, y, v, hs, nx, w, tp, nt, fa, fb, im, C, M, W, O, S, hv, B⟩ := I0
  have F := C.X.B.F
  refine s_L_law_1069 ?_
  have a1 : kI ((6 * c : Nat) : Int) + kI 1 = kI ((6 * c + 1 : Nat) : Int) := by rw [kI_add]; rfl
  have x1 : ix (kI ((6 * c + 1 : Nat) : Int)) = 6 * c + 1 := ix_kI (by omega)
  have b1 : inB (kI ((6 * c + 1 : Nat) : Int)) L = true := inB_kI (by omega) (by omega)
  have a2 : kI ((6 * c : Nat) : Int) + kI 2 = kI ((6 * c + 2 : Nat) : Int) := by rw [kI_add]; rfl
  have x2 : ix (kI ((6 * c + 2 : Nat) : Int)) = 6 * c + 2 := ix_kI (by omega)
  have b2 : inB (kI ((6 * c + 2 : Nat) : Int)) L = true := inB_kI (by omega) (by omega)
  have a3 : kI ((6 * c : Nat) : Int) + kI 3 = kI ((6 * c + 3 : Nat) : Int) := by rw [kI_add]; rfl
  have x3 : ix (kI ((6 * c + 3 : Nat) : Int)) = 6 * c + 3 := ix_kI (by omega)
  have b3 : inB (kI ((6 * c + 3 : Nat) : Int)) L = true := inB_kI (by omega) (by omega)
  simp only [a1, a2, a3, x1, x2, x3, b1, b2, b3, S.1, S.2.1, S.2.2, kd_1 F, decide_true, Bool.or_true, true_and]
  obtain ⟨x, hx⟩ := op_best I c5 (xs (6 * c + 1)) (xs (6 * c + 2)) (xs (6 * c + 3))
  refine GI.use hx (by omega) (fun h1 z => ?_)
  obtain ⟨S1, F1', hm⟩ := z
  simp only [a1, a2, a3, x1, x2, x3, b1, b2, b3, S1.1, S1.2.1, S1.2.2, kd_88 F1', decide_true, Bool.or_true, true_and]
  refine GI.use hm (by omega) (fun h3 I3 => ?_)
  rw [if_pos (by simp)]
  exact K h3 I3
theorem law_lasts {L : Nat} {xs : Nat → Int32} {c : Nat} {h : AH} (I : Inv L xs c h) (c5 : c ≤ 600) (hL : 6 * c + 6 ≤ L) (L3 : L ≤ 3072) {Q : Option Value → AH → Prop} (K : ∀ h', Inv L xs (c + 1) h' → Safe 200 m_L_law (1627, [.ref 1000000, .ref 1, .ref 88, .int (kI (6 * c : Nat))], [], h') Q) : Safe 200 m_L_law (1112, [.ref 1000000, .ref 1, .ref 88, .int (kI (6 * c : Nat))], [], h) Q := by
  have I0 := I
  obtain ⟨T, R, s, p, y, v, hs, nx, w, tp, nt, fa, fb, im, C, M, W, O, S, hv, B⟩ := I0
  have F := C.X.B.F
  refine s_L_law_1112 ?_
  have a1 : kI ((6 * c : Nat) : Int) + kI 1 = kI ((6 * c + 1 : Nat) : Int) := by rw [kI_add]; rfl
  have x1 : ix (kI ((6 * c + 1 : Nat) : Int)) = 6 * c + 1 := ix_kI (by omega)
  have b1 : inB (kI ((6 * c + 1 : Nat) : Int)) L = true := inB_kI (by omega) (by omega)
  have a2 : kI ((6 * c : Nat) : Int) + kI 2 = kI ((6 * c + 2 : Nat) : Int) := by rw [kI_add]; rfl
  have x2 : ix (kI ((6 * c + 2 : Nat) : Int)) = 6 * c + 2 := ix_kI (by omega)
  have b2 : inB (kI ((6 * c + 2 : Nat) : Int)) L = true := inB_kI (by omega) (by omega)
  have a3 : kI ((6 * c : Nat) : Int) + kI 3 = kI ((6 * c + 3 : Nat) : Int) := by rw [kI_add]; rfl
  have x3 : ix (kI ((6 * c + 3 : Nat) : Int)) = 6 * c + 3 := ix_kI (by omega)
  have b3 : inB (kI ((6 * c + 3 : Nat) : Int)) L = true := inB_kI (by omega) (by omega)
  simp only [a1, a2, a3, x1, x2, x3, b1, b2, b3, S.1, S.2.1, S.2.2, kd_1 F, decide_true, Bool.or_true, true_and]
  obtain ⟨x, hx⟩ := op_lasts I c5 (xs (6 * c + 1)) (xs (6 * c + 2)) (xs (6 * c + 3))
  refine GI.use hx (by omega) (fun h1 z => ?_)
  obtain ⟨S1, F1', hm⟩ := z
  simp only [a1, a2, a3, x1, x2, x3, b1, b2, b3, S1.1, S1.2.1, S1.2.2, kd_88 F1', decide_true, Bool.or_true, true_and]
  refine GI.use hm (by omega) (fun h3 I3 => ?_)
  rw [if_pos (by simp)]
  exact K h3 I3
theorem law_habits {L : Nat} {xs : Nat → Int32} {c : Nat} {h : AH} (I : Inv L xs c h) (c5 : c ≤ 600) (hL : 6 * c + 6 ≤ L) (L3 : L ≤ 3072) {Q : Option Value → AH → Prop} (K : ∀ h', Inv L xs (c + 1) h' → Safe 200 m_L_law (1627, [.ref 1000000, .ref 1, .ref 88, .int (kI (6 * c : Nat))], [], h') Q) : Safe 200 m_L_law (1155, [.ref 1000000, .ref 1, .ref 88, .int (kI (6 * c : Nat))], [], h) Q := by
  have I0 := I
  obtain ⟨T, R, s, p, y, v, hs, nx, w, tp, nt, fa, fb, im, C, M, W, O, S, hv, B⟩ := I0
  have F := C.X.B.F
  refine s_L_law_1155 ?_
  have a1 : kI ((6 * c : Nat) : Int) + kI 1 = kI ((6 * c + 1 : Nat) : Int) := by rw [kI_add]; rfl
  have x1 : ix (kI ((6 * c + 1 : Nat) : Int)) = 6 * c + 1 := ix_kI (by omega)
  have b1 : inB (kI ((6 * c + 1 : Nat) : Int)) L = true := inB_kI (by omega) (by omega)
  have a2 : kI ((6 * c : Nat) : Int) + kI 2 = kI ((6 * c + 2 : Nat) : Int) := by rw [kI_add]; rfl
  have x2 : ix (kI ((6 * c + 2 : Nat) : Int)) = 6 * c + 2 := ix_kI (by omega)
  have b2 : inB (kI ((6 * c + 2 : Nat) : Int)) L = true := inB_kI (by omega) (by omega)
  simp only [a1, a2, x1, x2, b1, b2, S.1, S.2.1, S.2.2, kd_1 F, decide_true, Bool.or_true, true_and]
  obtain ⟨x, hx⟩ := op_habits I c5 (xs (6 * c + 1)) (xs (6 * c + 2))
  refine GI.use hx (by omega) (fun h1 z => ?_)
  obtain ⟨S1, F1', hm⟩ := z
  simp only [a1, a2, x1, x2, b1, b2, S1.1, S1.2.1, S1.2.2, kd_88 F1', decide_true, Bool.or_true, true_and]
  refine GI.use hm (by omega) (fun h3 I3 => ?_)
  rw [if_pos (by simp)]
  exact K h3 I3
theorem law_look {L : Nat} {xs : Nat → Int32} {c : Nat} {h : AH} (I : Inv L xs c h) (c5 : c ≤ 600) (hL : 6 * c + 6 ≤ L) (L3 : L ≤ 3072) {Q : Option Value → AH → Prop} (K : ∀ h', Inv L xs (c + 1) h' → Safe 200 m_L_law (1627, [.ref 1000000, .ref 1, .ref 88, .int (kI (6 * c : Nat))], [], h') Q) : Safe 200 m_L_law (1188, [.ref 1000000, .ref 1, .ref 88, .int (kI (6 * c : Nat))], [], h) Q := by
  have I0 := I
  obtain ⟨T, R, s, p, y, v, hs, nx, w, tp, nt, fa, fb, im, C, M, W, O, S, hv, B⟩ := I0
  have F := C.X.B.F
  refine s_L_law_1188 ?_
  have a1 : kI ((6 * c : Nat) : Int) + kI 1 = kI ((6 * c + 1 : Nat) : Int) := by rw [kI_add]; rfl
  have x1 : ix (kI ((6 * c + 1 : Nat) : Int)) = 6 * c + 1 := ix_kI (by omega)
  have b1 : inB (kI ((6 * c + 1 : Nat) : Int)) L = true := inB_kI (by omega) (by omega)
  have a2 : kI ((6 * c : Nat) : Int) + kI 2 = kI ((6 * c + 2 : Nat) : Int) := by rw [kI_add]; rfl
  have x2 : ix (kI ((6 * c + 2 : Nat) : Int)) = 6 * c + 2 := ix_kI (by omega)
  have b2 : inB (kI ((6 * c + 2 : Nat) : Int)) L = true := inB_kI (by omega) (by omega)
  simp only [a1, a2, x1, x2, b1, b2, S.1, S.2.1, S.2.2, kd_1 F, decide_true, Bool.or_true, true_and]
  obtain ⟨x, hx⟩ := op_look I c5 (xs (6 * c + 1)) (xs (6 * c + 2))
  refine GI.use hx (by omega) (fun h1 z => ?_)
  obtain ⟨S1, F1', hm⟩ := z
  simp only [a1, a2, x1, x2, b1, b2, S1.1, S1.2.1, S1.2.2, kd_88 F1', decide_true, Bool.or_true, true_and]
  refine GI.use hm (by omega) (fun h3 I3 => ?_)
  rw [if_pos (by simp)]
  exact K h3 I3
theorem law_carried {L : Nat} {xs : Nat → Int32} {c : Nat} {h : AH} (I : Inv L xs c h) (c5 : c ≤ 600) (hL : 6 * c + 6 ≤ L) (L3 : L ≤ 3072) {Q : Option Value → AH → Prop} (K : ∀ h', Inv L xs (c + 1) h' → Safe 200 m_L_law (1627, [.ref 1000000, .ref 1, .ref 88, .int (kI (6 * c : Nat))], [], h') Q) : Safe 200 m_L_law (1221, [.ref 1000000, .ref 1, .ref 88, .int (kI (6 * c : Nat))], [], h) Q := by
  have I0 := I
  obtain ⟨T, R, s, p, y, v, hs, nx, w, tp, nt, fa, fb, im, C, M, W, O, S, hv, B⟩ := I0
  have F := C.X.B.F
  refine s_L_law_1221 ?_
  have a1 : kI ((6 * c : Nat) : Int) + kI 1 = kI ((6 * c + 1 : Nat) : Int) := by rw [kI_add]; rfl
  have x1 : ix (kI ((6 * c + 1 : Nat) : Int)) = 6 * c + 1 := ix_kI (by omega)
  have b1 : inB (kI ((6 * c + 1 : Nat) : Int)) L = true := inB_kI (by omega) (by omega)
  simp only [a1, x1, b1, S.1, S.2.1, S.2.2, kd_1 F, decide_true, Bool.or_true, true_and]
  obtain ⟨x, hx⟩ := op_carried I c5 (xs (6 * c + 1))
  refine GJ.use hx (by omega) (fun h1 z => ?_)
  obtain ⟨S1, F1', hm⟩ := z
  simp only [a1, x1, b1, S1.1, S1.2.1, S1.2.2, kd_88 F1', decide_true, Bool.or_true, true_and]
  refine GJ.use hm (by omega) (fun h3 I3 => ?_)
  rw [if_pos (lg_self x)]
  exact K h3 I3
theorem law_changes {L : Nat} {xs : Nat → Int32} {c : Nat} {h : AH} (I : Inv L xs c h) (c5 : c ≤ 600) (hL : 6 * c + 6 ≤ L) (L3 : L ≤ 3072) {Q : Option Value → AH → Prop} (K : ∀ h', Inv L xs (c + 1) h' → Safe 200 m_L_law (1627, [.ref 1000000, .ref 1, .ref 88, .int (kI (6 * c : Nat))], [], h') Q) : Safe 200 m_L_law (1245, [.ref 1000000, .ref 1, .ref 88, .int (kI (6 * c : Nat))], [], h) Q := by
  have I0 := I
  obtain ⟨T, R, s, p, y, v, hs, nx, w, tp, nt, fa, fb, im, C, M, W, O, S, hv, B⟩ := I0
  have F := C.X.B.F
  refine s_L_law_1245 ?_
  have a1 : kI ((6 * c : Nat) : Int) + kI 1 = kI ((6 * c + 1 : Nat) : Int) := by rw [kI_add]; rfl
  have x1 : ix (kI ((6 * c + 1 : Nat) : Int)) = 6 * c + 1 := ix_kI (by omega)
  have b1 : inB (kI ((6 * c + 1 : Nat) : Int)) L = true := inB_kI (by omega) (by omega)
  have a2 : kI ((6 * c : Nat) : Int) + kI 2 = kI ((6 * c + 2 : Nat) : Int) := by rw [kI_add]; rfl
  have x2 : ix (kI ((6 * c + 2 : Nat) : Int)) = 6 * c + 2 := ix_kI (by omega)
  have b2 : inB (kI ((6 * c + 2 : Nat) : Int)) L = true := inB_kI (by omega) (by omega)
  simp only [a1, a2, x1, x2, b1, b2, S.1, S.2.1, S.2.2, kd_1 F, decide_true, Bool.or_true, true_and]
  obtain ⟨x, hx⟩ := op_changes I c5 (xs (6 * c + 1)) (xs (6 * c + 2))
  refine GI.use hx (by omega) (fun h1 z => ?_)
  obtain ⟨S1, F1', hm⟩ := z
  simp only [a1, a2, x1, x2, b1, b2, S1.1, S1.2.1, S1.2.2, kd_88 F1', decide_true, Bool.or_true, true_and]
  refine GI.use hm (by omega) (fun h3 I3 => ?_)
  rw [if_pos (by simp)]
  exact K h3 I3
theorem law_covers {L : Nat} {xs : Nat → Int32} {c : Nat} {h : AH} (I : Inv L xs c h) (c5 : c ≤ 600) (hL : 6 * c + 6 ≤ L) (L3 : L ≤ 3072) {Q : Option Value → AH → Prop} (K : ∀ h', Inv L xs (c + 1) h' → Safe 200 m_L_law (1627, [.ref 1000000, .ref 1, .ref 88, .int (kI (6 * c : Nat))], [], h') Q) : Safe 200 m_L_law (1278, [.ref 1000000, .ref 1, .ref 88, .int (kI (6 * c : Nat))], [], h) Q := by
  have I0 := I
  obtain ⟨T, R, s, p, y, v, hs, nx, w, tp, nt, fa, fb, im, C, M, W, O, S, hv, B⟩ := I0
  have F := C.X.B.F
  refine s_L_law_1278 ?_
  have a1 : kI ((6 * c : Nat) : Int) + kI 1 = kI ((6 * c + 1 : Nat) : Int) := by rw [kI_add]; rfl
  have x1 : ix (kI ((6 * c + 1 : Nat) : Int)) = 6 * c + 1 := ix_kI (by omega)
  have b1 : inB (kI ((6 * c + 1 : Nat) : Int)) L = true := inB_kI (by omega) (by omega)
  have a2 : kI ((6 * c : Nat) : Int) + kI 2 = kI ((6 * c + 2 : Nat) : Int) := by rw [kI_add]; rfl
  have x2 : ix (kI ((6 * c + 2 : Nat) : Int)) = 6 * c + 2 := ix_kI (by omega)
  have b2 : inB (kI ((6 * c + 2 : Nat) : Int)) L = true := inB_kI (by omega) (by omega)
  have a3 : kI ((6 * c : Nat) : Int) + kI 3 = kI ((6 * c + 3 : Nat) : Int) := by rw [kI_add]; rfl
  have x3 : ix (kI ((6 * c + 3 : Nat) : Int)) = 6 * c + 3 := ix_kI (by omega)
  have b3 : inB (kI ((6 * c + 3 : Nat) : Int)) L = true := inB_kI (by omega) (by omega)
  simp only [a1, a2, a3, x1, x2, x3, b1, b2, b3, S.1, S.2.1, S.2.2, kd_1 F, decide_true, Bool.or_true, true_and]
  obtain ⟨x, hx⟩ := op_covers I c5 (xs (6 * c + 1)) (xs (6 * c + 2)) (xs (6 * c + 3))
  refine GI.use hx (by omega) (fun h1 z => ?_)
  obtain ⟨S1, F1', hm⟩ := z
  simp only [a1, a2, a3, x1, x2, x3, b1, b2, b3, S1.1, S1.2.1, S1.2.2, kd_88 F1', decide_true, Bool.or_true, true_and]
  refine GI.use hm (by omega) (fun h3 I3 => ?_)
  rw [if_pos (by simp)]
  exact K h3 I3
theorem law_chance {L : Nat} {xs : Nat → Int32} {c : Nat} {h : AH} (I : Inv L xs c h) (c5 : c ≤ 600) (hL : 6 * c + 6 ≤ L) (L3 : L ≤ 3072) {Q : Option Value → AH → Prop} (K : ∀ h', Inv L xs (c + 1) h' → Safe 200 m_L_law (1627, [.ref 1000000, .ref 1, .ref 88, .int (kI (6 * c : Nat))], [], h') Q) : Safe 200 m_L_law (1321, [.ref 1000000, .ref 1, .ref 88, .int (kI (6 * c : Nat))], [], h) Q := by
  have I0 := I
  obtain ⟨T, R, s, p, y, v, hs, nx, w, tp, nt, fa, fb, im, C, M, W, O, S, hv, B⟩ := I0
  have F := C.X.B.F
  refine s_L_law_1321 ?_
  have a1 : kI ((6 * c : Nat) : Int) + kI 1 = kI ((6 * c + 1 : Nat) : Int) := by rw [kI_add]; rfl
  have x1 : ix (kI ((6 * c + 1 : Nat) : Int)) = 6 * c + 1 := ix_kI (by omega)
  have b1 : inB (kI ((6 * c + 1 : Nat) : Int)) L = true := inB_kI (by omega) (by omega)
  have a2 : kI ((6 * c : Nat) : Int) + kI 2 = kI ((6 * c + 2 : Nat) : Int) := by rw [kI_add]; rfl
  have x2 : ix (kI ((6 * c + 2 : Nat) : Int)) = 6 * c + 2 := ix_kI (by omega)
  have b2 : inB (kI ((6 * c + 2 : Nat) : Int)) L = true := inB_kI (by omega) (by omega)
  have a3 : kI ((6 * c : Nat) : Int) + kI 3 = kI ((6 * c + 3 : Nat) : Int) := by rw [kI_add]; rfl
  have x3 : ix (kI ((6 * c + 3 : Nat) : Int)) = 6 * c + 3 := ix_kI (by omega)
  have b3 : inB (kI ((6 * c + 3 : Nat) : Int)) L = true := inB_kI (by omega) (by omega)
  have a4 : kI ((6 * c : Nat) : Int) + kI 4 = kI ((6 * c + 4 : Nat) : Int) := by rw [kI_add]; rfl
  have x4 : ix (kI ((6 * c + 4 : Nat) : Int)) = 6 * c + 4 := ix_kI (by omega)
  have b4 : inB (kI ((6 * c + 4 : Nat) : Int)) L = true := inB_kI (by omega) (by omega)
  simp only [a1, a2, a3, a4, x1, x2, x3, x4, b1, b2, b3, b4, S.1, S.2.1, S.2.2, kd_1 F, decide_true, Bool.or_true, true_and]
  obtain ⟨x, hx⟩ := op_chance I c5 (xs (6 * c + 1)) (xs (6 * c + 2)) (xs (6 * c + 3)) (xs (6 * c + 4))
  refine GJ.use hx (by omega) (fun h1 z => ?_)
  obtain ⟨S1, F1', hm⟩ := z
  simp only [a1, a2, a3, a4, x1, x2, x3, x4, b1, b2, b3, b4, S1.1, S1.2.1, S1.2.2, kd_88 F1', decide_true, Bool.or_true, true_and]
  refine GJ.use hm (by omega) (fun h3 I3 => ?_)
  rw [if_pos (lg_self x)]
  exact K h3 I3
theorem law_latest {L : Nat} {xs : Nat → Int32} {c : Nat} {h : AH} (I : Inv L xs c h) (c5 : c ≤ 600) (hL : 6 * c + 6 ≤ L) (L3 : L ≤ 3072) {Q : Option Value → AH → Prop} (K : ∀ h', Inv L xs (c + 1) h' → Safe 200 m_L_law (1627, [.ref 1000000, .ref 1, .ref 88, .int (kI (6 * c : Nat))], [], h') Q) : Safe 200 m_L_law (1375, [.ref 1000000, .ref 1, .ref 88, .int (kI (6 * c : Nat))], [], h) Q := by
  have I0 := I
  obtain ⟨T, R, s, p, y, v, hs, nx, w, tp, nt, fa, fb, im, C, M, W, O, S, hv, B⟩ := I0
  have F := C.X.B.F
  refine s_L_law_1375 ?_
  have a1 : kI ((6 * c : Nat) : Int) + kI 1 = kI ((6 * c + 1 : Nat) : Int) := by rw [kI_add]; rfl
  have x1 : ix (kI ((6 * c + 1 : Nat) : Int)) = 6 * c + 1 := ix_kI (by omega)
  have b1 : inB (kI ((6 * c + 1 : Nat) : Int)) L = true := inB_kI (by omega) (by omega)
  have a2 : kI ((6 * c : Nat) : Int) + kI 2 = kI ((6 * c + 2 : Nat) : Int) := by rw [kI_add]; rfl
  have x2 : ix (kI ((6 * c + 2 : Nat) : Int)) = 6 * c + 2 := ix_kI (by omega)
  have b2 : inB (kI ((6 * c + 2 : Nat) : Int)) L = true := inB_kI (by omega) (by omega)
  simp only [a1, a2, x1, x2, b1, b2, S.1, S.2.1, S.2.2, kd_1 F, decide_true, Bool.or_true, true_and]
  obtain ⟨x, hx⟩ := op_latest I c5 (xs (6 * c + 1)) (xs (6 * c + 2))
  refine GI.use hx (by omega) (fun h1 z => ?_)
  obtain ⟨S1, F1', hm⟩ := z
  simp only [a1, a2, x1, x2, b1, b2, S1.1, S1.2.1, S1.2.2, kd_88 F1', decide_true, Bool.or_true, true_and]
  refine GI.use hm (by omega) (fun h3 I3 => ?_)
  rw [if_pos (by simp)]
  exact K h3 I3
theorem law_numbers {L : Nat} {xs : Nat → Int32} {c : Nat} {h : AH} (I : Inv L xs c h) (c5 : c ≤ 600) (hL : 6 * c + 6 ≤ L) (L3 : L ≤ 3072) {Q : Option Value → AH → Prop} (K : ∀ h', Inv L xs (c + 1) h' → Safe 200 m_L_law (1627, [.ref 1000000, .ref 1, .ref 88, .int (kI (6 * c : Nat))], [], h') Q) : Safe 200 m_L_law (1408, [.ref 1000000, .ref 1, .ref 88, .int (kI (6 * c : Nat))], [], h) Q := by
  have I0 := I
  obtain ⟨T, R, s, p, y, v, hs, nx, w, tp, nt, fa, fb, im, C, M, W, O, S, hv, B⟩ := I0
  have F := C.X.B.F
  refine s_L_law_1408 ?_
  have a1 : kI ((6 * c : Nat) : Int) + kI 1 = kI ((6 * c + 1 : Nat) : Int) := by rw [kI_add]; rfl
  have x1 : ix (kI ((6 * c + 1 : Nat) : Int)) = 6 * c + 1 := ix_kI (by omega)
  have b1 : inB (kI ((6 * c + 1 : Nat) : Int)) L = true := inB_kI (by omega) (by omega)
  have a2 : kI ((6 * c : Nat) : Int) + kI 2 = kI ((6 * c + 2 : Nat) : Int) := by rw [kI_add]; rfl
  have x2 : ix (kI ((6 * c + 2 : Nat) : Int)) = 6 * c + 2 := ix_kI (by omega)
  have b2 : inB (kI ((6 * c + 2 : Nat) : Int)) L = true := inB_kI (by omega) (by omega)
  have a3 : kI ((6 * c : Nat) : Int) + kI 3 = kI ((6 * c + 3 : Nat) : Int) := by rw [kI_add]; rfl
  have x3 : ix (kI ((6 * c + 3 : Nat) : Int)) = 6 * c + 3 := ix_kI (by omega)
  have b3 : inB (kI ((6 * c + 3 : Nat) : Int)) L = true := inB_kI (by omega) (by omega)
  simp only [a1, a2, a3, x1, x2, x3, b1, b2, b3, S.1, S.2.1, S.2.2, kd_1 F, decide_true, Bool.or_true, true_and]
  obtain ⟨x, hx⟩ := op_numbers I c5 (xs (6 * c + 1)) (xs (6 * c + 2)) (xs (6 * c + 3))
  refine GI.use hx (by omega) (fun h1 z => ?_)
  obtain ⟨S1, F1', hm⟩ := z
  simp only [a1, a2, a3, x1, x2, x3, b1, b2, b3, S1.1, S1.2.1, S1.2.2, kd_88 F1', decide_true, Bool.or_true, true_and]
  refine GI.use hm (by omega) (fun h3 I3 => ?_)
  rw [if_pos (by simp)]
  exact K h3 I3
theorem law_write {L : Nat} {xs : Nat → Int32} {c : Nat} {h : AH} (I : Inv L xs c h) (c5 : c ≤ 600) (hL : 6 * c + 6 ≤ L) (L3 : L ≤ 3072) {Q : Option Value → AH → Prop} (K : ∀ h', Inv L xs (c + 1) h' → Safe 200 m_L_law (1627, [.ref 1000000, .ref 1, .ref 88, .int (kI (6 * c : Nat))], [], h') Q) : Safe 200 m_L_law (1451, [.ref 1000000, .ref 1, .ref 88, .int (kI (6 * c : Nat))], [], h) Q := by
  have I0 := I
  obtain ⟨T, R, s, p, y, v, hs, nx, w, tp, nt, fa, fb, im, C, M, W, O, S, hv, B⟩ := I0
  have F := C.X.B.F
  refine s_L_law_1451 ?_
  have a1 : kI ((6 * c : Nat) : Int) + kI 1 = kI ((6 * c + 1 : Nat) : Int) := by rw [kI_add]; rfl
  have x1 : ix (kI ((6 * c + 1 : Nat) : Int)) = 6 * c + 1 := ix_kI (by omega)
  have b1 : inB (kI ((6 * c + 1 : Nat) : Int)) L = true := inB_kI (by omega) (by omega)
  have a2 : kI ((6 * c : Nat) : Int) + kI 2 = kI ((6 * c + 2 : Nat) : Int) := by rw [kI_add]; rfl
  have x2 : ix (kI ((6 * c + 2 : Nat) : Int)) = 6 * c + 2 := ix_kI (by omega)
  have b2 : inB (kI ((6 * c + 2 : Nat) : Int)) L = true := inB_kI (by omega) (by omega)
  have a3 : kI ((6 * c : Nat) : Int) + kI 3 = kI ((6 * c + 3 : Nat) : Int) := by rw [kI_add]; rfl
  have x3 : ix (kI ((6 * c + 3 : Nat) : Int)) = 6 * c + 3 := ix_kI (by omega)
  have b3 : inB (kI ((6 * c + 3 : Nat) : Int)) L = true := inB_kI (by omega) (by omega)
  have a4 : kI ((6 * c : Nat) : Int) + kI 4 = kI ((6 * c + 4 : Nat) : Int) := by rw [kI_add]; rfl
  have x4 : ix (kI ((6 * c + 4 : Nat) : Int)) = 6 * c + 4 := ix_kI (by omega)
  have b4 : inB (kI ((6 * c + 4 : Nat) : Int)) L = true := inB_kI (by omega) (by omega)
  simp only [a1, a2, a3, a4, x1, x2, x3, x4, b1, b2, b3, b4, S.1, S.2.1, S.2.2, kd_1 F, decide_true, Bool.or_true, true_and]
  obtain ⟨x, hx⟩ := op_write I c5 (xs (6 * c + 1)) (xs (6 * c + 2)) (((xs (6 * c + 3)).toInt64 <<< ((kI 32).toInt64 &&& 63)) ||| ((xs (6 * c + 4)).toInt64 &&& kJ 4294967295))
  refine GJ.use hx (by omega) (fun h1 z => ?_)
  obtain ⟨S1, F1', hm⟩ := z
  simp only [a1, a2, a3, a4, x1, x2, x3, x4, b1, b2, b3, b4, S1.1, S1.2.1, S1.2.2, kd_88 F1', decide_true, Bool.or_true, true_and]
  refine GJ.use hm (by omega) (fun h3 I3 => ?_)
  rw [if_pos (lg_self x)]
  exact K h3 I3
theorem law_lists {L : Nat} {xs : Nat → Int32} {c : Nat} {h : AH} (I : Inv L xs c h) (c5 : c ≤ 600) (hL : 6 * c + 6 ≤ L) (L3 : L ≤ 3072) {Q : Option Value → AH → Prop} (K : ∀ h', Inv L xs (c + 1) h' → Safe 200 m_L_law (1627, [.ref 1000000, .ref 1, .ref 88, .int (kI (6 * c : Nat))], [], h') Q) : Safe 200 m_L_law (1525, [.ref 1000000, .ref 1, .ref 88, .int (kI (6 * c : Nat))], [], h) Q := by
  have I0 := I
  obtain ⟨T, R, s, p, y, v, hs, nx, w, tp, nt, fa, fb, im, C, M, W, O, S, hv, B⟩ := I0
  have F := C.X.B.F
  refine s_L_law_1525 ?_
  have a1 : kI ((6 * c : Nat) : Int) + kI 1 = kI ((6 * c + 1 : Nat) : Int) := by rw [kI_add]; rfl
  have x1 : ix (kI ((6 * c + 1 : Nat) : Int)) = 6 * c + 1 := ix_kI (by omega)
  have b1 : inB (kI ((6 * c + 1 : Nat) : Int)) L = true := inB_kI (by omega) (by omega)
  have a2 : kI ((6 * c : Nat) : Int) + kI 2 = kI ((6 * c + 2 : Nat) : Int) := by rw [kI_add]; rfl
  have x2 : ix (kI ((6 * c + 2 : Nat) : Int)) = 6 * c + 2 := ix_kI (by omega)
  have b2 : inB (kI ((6 * c + 2 : Nat) : Int)) L = true := inB_kI (by omega) (by omega)
  simp only [a1, a2, x1, x2, b1, b2, S.1, S.2.1, S.2.2, kd_1 F, decide_true, Bool.or_true, true_and]
  obtain ⟨x, hx⟩ := op_lists I c5 (xs (6 * c + 1)) (xs (6 * c + 2))
  refine GI.use hx (by omega) (fun h1 z => ?_)
  obtain ⟨S1, F1', hm⟩ := z
  simp only [a1, a2, x1, x2, b1, b2, S1.1, S1.2.1, S1.2.2, kd_88 F1', decide_true, Bool.or_true, true_and]
  refine GI.use hm (by omega) (fun h3 I3 => ?_)
  rw [if_pos (by simp)]
  exact K h3 I3
theorem law_image {L : Nat} {xs : Nat → Int32} {c : Nat} {h : AH} (I : Inv L xs c h) (c5 : c ≤ 600) (hL : 6 * c + 6 ≤ L) (L3 : L ≤ 3072) {Q : Option Value → AH → Prop} (K : ∀ h', Inv L xs (c + 1) h' → Safe 200 m_L_law (1627, [.ref 1000000, .ref 1, .ref 88, .int (kI (6 * c : Nat))], [], h') Q) : Safe 200 m_L_law (1558, [.ref 1000000, .ref 1, .ref 88, .int (kI (6 * c : Nat))], [], h) Q := by
  have I0 := I
  obtain ⟨T, R, s, p, y, v, hs, nx, w, tp, nt, fa, fb, im, C, M, W, O, S, hv, B⟩ := I0
  have F := C.X.B.F
  refine s_L_law_1558 ?_
  have a1 : kI ((6 * c : Nat) : Int) + kI 1 = kI ((6 * c + 1 : Nat) : Int) := by rw [kI_add]; rfl
  have x1 : ix (kI ((6 * c + 1 : Nat) : Int)) = 6 * c + 1 := ix_kI (by omega)
  have b1 : inB (kI ((6 * c + 1 : Nat) : Int)) L = true := inB_kI (by omega) (by omega)
  simp only [a1, x1, b1, S.1, S.2.1, S.2.2, kd_1 F, decide_true, Bool.or_true, true_and]
  obtain ⟨x, hx⟩ := op_image I c5 (xs (6 * c + 1))
  refine GI.use hx (by omega) (fun h1 z => ?_)
  obtain ⟨S1, F1', hm⟩ := z
  simp only [a1, x1, b1, S1.1, S1.2.1, S1.2.2, kd_88 F1', decide_true, Bool.or_true, true_and]
  refine GI.use hm (by omega) (fun h3 I3 => ?_)
  rw [if_pos (by simp)]
  exact K h3 I3
theorem law_restore {L : Nat} {xs : Nat → Int32} {c : Nat} {h : AH} (I : Inv L xs c h) (c5 : c ≤ 600) (hL : 6 * c + 6 ≤ L) (L3 : L ≤ 3072) {Q : Option Value → AH → Prop} (K : ∀ h', Inv L xs (c + 1) h' → Safe 200 m_L_law (1627, [.ref 1000000, .ref 1, .ref 88, .int (kI (6 * c : Nat))], [], h') Q) : Safe 200 m_L_law (1581, [.ref 1000000, .ref 1, .ref 88, .int (kI (6 * c : Nat))], [], h) Q := by
  have I0 := I
  obtain ⟨T, R, s, p, y, v, hs, nx, w, tp, nt, fa, fb, im, C, M, W, O, S, hv, B⟩ := I0
  have F := C.X.B.F
  refine s_L_law_1581 ?_
  have a1 : kI ((6 * c : Nat) : Int) + kI 1 = kI ((6 * c + 1 : Nat) : Int) := by rw [kI_add]; rfl
  have x1 : ix (kI ((6 * c + 1 : Nat) : Int)) = 6 * c + 1 := ix_kI (by omega)
  have b1 : inB (kI ((6 * c + 1 : Nat) : Int)) L = true := inB_kI (by omega) (by omega)
  simp only [a1, x1, b1, S.1, S.2.1, S.2.2, kd_1 F, decide_true, Bool.or_true, true_and]
  obtain ⟨x, hx⟩ := op_restore I c5 (xs (6 * c + 1))
  refine GI.use hx (by omega) (fun h1 z => ?_)
  obtain ⟨S1, F1', hm⟩ := z
  simp only [a1, x1, b1, S1.1, S1.2.1, S1.2.2, kd_88 F1', decide_true, Bool.or_true, true_and]
  refine GI.use hm (by omega) (fun h3 I3 => ?_)
  rw [if_pos (by simp)]
  exact K h3 I3
theorem law_count {L : Nat} {xs : Nat → Int32} {c : Nat} {h : AH} (I : Inv L xs c h) (c5 : c ≤ 600) (hL : 6 * c + 6 ≤ L) (L3 : L ≤ 3072) {Q : Option Value → AH → Prop} (K : ∀ h', Inv L xs (c + 1) h' → Safe 200 m_L_law (1627, [.ref 1000000, .ref 1, .ref 88, .int (kI (6 * c : Nat))], [], h') Q) : Safe 200 m_L_law (1604, [.ref 1000000, .ref 1, .ref 88, .int (kI (6 * c : Nat))], [], h) Q := by
  have I0 := I
  obtain ⟨T, R, s, p, y, v, hs, nx, w, tp, nt, fa, fb, im, C, M, W, O, S, hv, B⟩ := I0
  have F := C.X.B.F
  refine s_L_law_1604 ?_
  have a1 : kI ((6 * c : Nat) : Int) + kI 1 = kI ((6 * c + 1 : Nat) : Int) := by rw [kI_add]; rfl
  have x1 : ix (kI ((6 * c + 1 : Nat) : Int)) = 6 * c + 1 := ix_kI (by omega)
  have b1 : inB (kI ((6 * c + 1 : Nat) : Int)) L = true := inB_kI (by omega) (by omega)
  simp only [a1, x1, b1, S.1, S.2.1, S.2.2, kd_1 F, decide_true, Bool.or_true, true_and]
  obtain ⟨x, hx⟩ := op_count I c5 (xs (6 * c + 1))
  refine GI.use hx (by omega) (fun h1 z => ?_)
  obtain ⟨S1, F1', hm⟩ := z
  simp only [a1, x1, b1, S1.1, S1.2.1, S1.2.2, kd_88 F1', decide_true, Bool.or_true, true_and]
  refine GI.use hm (by omega) (fun h3 I3 => ?_)
  rw [if_pos (by simp)]
  exact K h3 I3
theorem law_loop {L : Nat} {xs : Nat → Int32} (L3 : L ≤ 3072) {Q : Option Value → AH → Prop} (K : ∀ c h, c ≤ 512 → Inv L xs c h → Q (some (.int (kI 1))) h) : ∀ f c h, L + 6 ≤ 6 * (c + f) → 6 * c ≤ L → Inv L xs c h → Safe 200 m_L_law (18, [.ref 1000000, .ref 1, .ref 88, .int (kI (6 * c : Nat))], [], h) Q := by
  intro f
  induction f with
  | zero => intro c h hf hc I; omega
  | succ f ih =>
    intro c h hf hc I
    have I0 := I
    obtain ⟨T, R, s, p, y, v, hs, nx, w, tp, nt, fa, fb, im, C, M, W, O, S, hv, B⟩ := I0
    refine s_L_law_18 ?_
    rw [S.1, S.2.1, kI_sub]
    refine ⟨rfl, ?_⟩
    by_cases q : L < 6 * c + 6
    · rw [if_pos (by rw [decide_eq_true_eq, kI_lt (by omega) (by omega) (by omega) (by omega)]; omega)]
      exact ⟨rfl, K c h (by omega) I⟩
    · rw [if_neg (by rw [decide_eq_true_eq, kI_lt (by omega) (by omega) (by omega) (by omega)]; omega), ix_kI (by omega), S.2.2]
      refine ⟨rfl, inB_kI (by omega) (by omega), ?_⟩
      have nx : ∀ h', Inv L xs (c + 1) h' → Safe 200 m_L_law (1627, [.ref 1000000, .ref 1, .ref 88, .int (kI (6 * c : Nat))], [], h') Q := fun h' I' => by
        refine s_L_law_1627 ?_
        have := ih (c + 1) h' (by omega) (by omega) I'
        rw [show ((6 * (c + 1) : Nat) : Int) = ((6 * c : Nat) : Int) + 6 by omega, ← kI_add] at this
        exact this
      have stay : Inv L xs (c + 1) h := by
        refine ⟨T, R, s, p, y, v, hs, _, w, tp, nt, fa, fb, im, C, M, W, O, S, by omega, ?_⟩
        unfold RB at *
        omega
      by_cases q0 : decide (xs (6 * c) &&& kI 63 = kI 0) = true
      · rw [if_pos q0]
        exact law_feed I (by omega) (by omega) L3 nx
      rw [if_neg q0]
      by_cases q1 : decide (xs (6 * c) &&& kI 63 = kI 1) = true
      · rw [if_pos q1]
        exact law_sheet I (by omega) (by omega) L3 nx
      rw [if_neg q1]
      by_cases q2 : decide (xs (6 * c) &&& kI 63 = kI 2) = true
      · rw [if_pos q2]
        exact law_fault I (by omega) (by omega) L3 nx
      rw [if_neg q2]
      by_cases q3 : decide (xs (6 * c) &&& kI 63 = kI 3) = true
      · rw [if_pos q3]
        exact law_cell I (by omega) (by omega) L3 nx
      rw [if_neg q3]
      by_cases q4 : decide (xs (6 * c) &&& kI 63 = kI 4) = true
      · rw [if_pos q4]
        exact law_hand I (by omega) (by omega) L3 nx
      rw [if_neg q4]
      by_cases q5 : decide (xs (6 * c) &&& kI 63 = kI 5) = true
      · rw [if_pos q5]
        exact law_stroke I (by omega) (by omega) L3 nx
      rw [if_neg q5]
      by_cases q6 : decide (xs (6 * c) &&& kI 63 = kI 6) = true
      · rw [if_pos q6]
        exact law_rub I (by omega) (by omega) L3 nx
      rw [if_neg q6]
      by_cases q7 : decide (xs (6 * c) &&& kI 63 = kI 7) = true
      · rw [if_pos q7]
        exact law_habit I (by omega) (by omega) L3 nx
      rw [if_neg q7]
      by_cases q8 : decide (xs (6 * c) &&& kI 63 = kI 8) = true
      · rw [if_pos q8]
        exact law_hide I (by omega) (by omega) L3 nx
      rw [if_neg q8]
      by_cases q9 : decide (xs (6 * c) &&& kI 63 = kI 9) = true
      · rw [if_pos q9]
        exact law_undo I (by omega) (by omega) L3 nx
      rw [if_neg q9]
      by_cases q10 : decide (xs (6 * c) &&& kI 63 = kI 10) = true
      · rw [if_pos q10]
        exact law_judge I (by omega) (by omega) L3 nx
      rw [if_neg q10]
      by_cases q11 : decide (xs (6 * c) &&& kI 63 = kI 11) = true
      · rw [if_pos q11]
        exact law_perform I (by omega) (by omega) L3 nx
      rw [if_neg q11]
      by_cases q12 : decide (xs (6 * c) &&& kI 63 = kI 12) = true
      · rw [if_pos q12]
        exact law_night I (by omega) (by omega) L3 nx
      rw [if_neg q12]
      by_cases q13 : decide (xs (6 * c) &&& kI 63 = kI 13) = true
      · rw [if_pos q13]
        exact law_longest I (by omega) (by omega) L3 nx
      rw [if_neg q13]
      by_cases q14 : decide (xs (6 * c) &&& kI 63 = kI 14) = true
      · rw [if_pos q14]
        exact law_longWay I (by omega) (by omega) L3 nx
      rw [if_neg q14]
      by_cases q15 : decide (xs (6 * c) &&& kI 63 = kI 15) = true
      · rw [if_pos q15]
        exact law_stuck I (by omega) (by omega) L3 nx
      rw [if_neg q15]
      by_cases q16 : decide (xs (6 * c) &&& kI 63 = kI 16) = true
      · rw [if_pos q16]
        exact law_stuckWay I (by omega) (by omega) L3 nx
      rw [if_neg q16]
      by_cases q17 : decide (xs (6 * c) &&& kI 63 = kI 17) = true
      · rw [if_pos q17]
        exact law_soonest I (by omega) (by omega) L3 nx
      rw [if_neg q17]
      by_cases q18 : decide (xs (6 * c) &&& kI 63 = kI 18) = true
      · rw [if_pos q18]
        exact law_way I (by omega) (by omega) L3 nx
      rw [if_neg q18]
      by_cases q19 : decide (xs (6 * c) &&& kI 63 = kI 19) = true
      · rw [if_pos q19]
        exact law_reach I (by omega) (by omega) L3 nx
      rw [if_neg q19]
      by_cases q20 : decide (xs (6 * c) &&& kI 63 = kI 20) = true
      · rw [if_pos q20]
        exact law_ahead I (by omega) (by omega) L3 nx
      rw [if_neg q20]
      by_cases q21 : decide (xs (6 * c) &&& kI 63 = kI 21) = true
      · rw [if_pos q21]
        exact law_rows I (by omega) (by omega) L3 nx
      rw [if_neg q21]
      by_cases q22 : decide (xs (6 * c) &&& kI 63 = kI 22) = true
      · rw [if_pos q22]
        exact law_ends I (by omega) (by omega) L3 nx
      rw [if_neg q22]
      by_cases q23 : decide (xs (6 * c) &&& kI 63 = kI 23) = true
      · rw [if_pos q23]
        exact law_likely I (by omega) (by omega) L3 nx
      rw [if_neg q23]
      by_cases q24 : decide (xs (6 * c) &&& kI 63 = kI 24) = true
      · rw [if_pos q24]
        exact law_safest I (by omega) (by omega) L3 nx
      rw [if_neg q24]
      by_cases q25 : decide (xs (6 * c) &&& kI 63 = kI 25) = true
      · rw [if_pos q25]
        exact law_likeliest I (by omega) (by omega) L3 nx
      rw [if_neg q25]
      by_cases q26 : decide (xs (6 * c) &&& kI 63 = kI 26) = true
      · rw [if_pos q26]
        exact law_wins I (by omega) (by omega) L3 nx
      rw [if_neg q26]
      by_cases q27 : decide (xs (6 * c) &&& kI 63 = kI 27) = true
      · rw [if_pos q27]
        exact law_best I (by omega) (by omega) L3 nx
      rw [if_neg q27]
      by_cases q28 : decide (xs (6 * c) &&& kI 63 = kI 28) = true
      · rw [if_pos q28]
        exact law_lasts I (by omega) (by omega) L3 nx
      rw [if_neg q28]
      by_cases q29 : decide (xs (6 * c) &&& kI 63 = kI 29) = true
      · rw [if_pos q29]
        exact law_habits I (by omega) (by omega) L3 nx
      rw [if_neg q29]
      by_cases q30 : decide (xs (6 * c) &&& kI 63 = kI 30) = true
      · rw [if_pos q30]
        exact law_look I (by omega) (by omega) L3 nx
      rw [if_neg q30]
      by_cases q31 : decide (xs (6 * c) &&& kI 63 = kI 31) = true
      · rw [if_pos q31]
        exact law_carried I (by omega) (by omega) L3 nx
      rw [if_neg q31]
      by_cases q32 : decide (xs (6 * c) &&& kI 63 = kI 32) = true
      · rw [if_pos q32]
        exact law_changes I (by omega) (by omega) L3 nx
      rw [if_neg q32]
      by_cases q33 : decide (xs (6 * c) &&& kI 63 = kI 33) = true
      · rw [if_pos q33]
        exact law_covers I (by omega) (by omega) L3 nx
      rw [if_neg q33]
      by_cases q34 : decide (xs (6 * c) &&& kI 63 = kI 34) = true
      · rw [if_pos q34]
        exact law_chance I (by omega) (by omega) L3 nx
      rw [if_neg q34]
      by_cases q35 : decide (xs (6 * c) &&& kI 63 = kI 35) = true
      · rw [if_pos q35]
        exact law_latest I (by omega) (by omega) L3 nx
      rw [if_neg q35]
      by_cases q36 : decide (xs (6 * c) &&& kI 63 = kI 36) = true
      · rw [if_pos q36]
        exact law_numbers I (by omega) (by omega) L3 nx
      rw [if_neg q36]
      by_cases q37 : decide (xs (6 * c) &&& kI 63 = kI 37) = true
      · rw [if_pos q37]
        exact law_write I (by omega) (by omega) L3 nx
      rw [if_neg q37]
      by_cases q38 : decide (xs (6 * c) &&& kI 63 = kI 38) = true
      · rw [if_pos q38]
        exact law_lists I (by omega) (by omega) L3 nx
      rw [if_neg q38]
      by_cases q39 : decide (xs (6 * c) &&& kI 63 = kI 39) = true
      · rw [if_pos q39]
        exact law_image I (by omega) (by omega) L3 nx
      rw [if_neg q39]
      by_cases q40 : decide (xs (6 * c) &&& kI 63 = kI 40) = true
      · rw [if_pos q40]
        exact law_restore I (by omega) (by omega) L3 nx
      rw [if_neg q40]
      by_cases q41 : decide (xs (6 * c) &&& kI 63 = kI 41) = true
      · rw [if_pos q41]
        exact law_count I (by omega) (by omega) L3 nx
      rw [if_neg q41]
      exact nx h stay
