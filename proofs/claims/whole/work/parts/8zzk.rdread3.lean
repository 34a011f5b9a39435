/-! forget, head, read -/
theorem y0_g : yD (gY g0F) = 0 ∧ yL (gY g0F) = 12 ∧ yX (gY g0F) = -1 ∧ ∀ k, yB (gY g0F) k = 0 := by
  refine ⟨rfl, rfl, rfl, fun k => ?_⟩
  show (if k < 4 then (g0F (25 + k)).toNat else 0) = 0
  split
  · have : g0F (25 + k) = 0 := by unfold g0F; rw [if_neg (by omega), if_neg (by omega), if_neg (by omega)]
    rw [this]
    rfl
  · rfl
theorem Pg_clear_g {pg : Nat} {h : AH} (g : PG pg) (kp : kdA h pg = 3) (r4 : rvA h pg 4 = pg + 1) (kb : kdA h (pg + 1) = 20) (lb : lnA h (pg + 1) = 4) : GV 2 m_Pg_clear [.ref pg] h (fun h' => FZ pg h h' ∧ XP (gY g0F) ((ivA h pg 3).toInt + 1) pg h') := by
  refine GVo (s_Pg_clear_0 ?_)
  obtain ⟨h1, h1e⟩ : ∃ h1, h1 = stI (stI (stI h pg 0 (kI 0)) pg 1 (kI (-1))) pg 2 (kI (-1)) := ⟨_, rfl⟩
  rw [← h1e]
  have e1 : FZ pg h h1 := by rw [h1e]; exact (((Fr_rfl (fun a _ => a = pg ∨ a = pg + 1) JM h).stI (Or.inl rfl) _).stI (Or.inl rfl) _).stI (Or.inl rfl) _
  have kp1 : kdA h1 pg = 3 := by rw [e1.1]; exact kp
  simp only [kd_stI, kp, kp1]
  rw [show rvA h1 pg 4 = pg + 1 by rw [e1.2.2.1]; exact r4]
  refine ⟨rfl, rfl, rfl, rfl, ?_⟩
  refine GV.use (Ar_fill2_g (a := pg + 1) (L := 4) (by rw [e1.1]; exact kb) (by rw [e1.2.1]; exact lb) (by omega) (kI 0)) (by omega) (fun h2 e2 => ?_)
  obtain ⟨e2, z2⟩ := e2
  have i2 : ∀ k, ivA h2 pg k = ivA h1 pg k := fun k => e2.2.2.2.2.2.1 pg k (by omega)
  have e2' : FZ pg h h2 := e1.trans (e2.mono (fun a k w => Or.inr w) (fun _ _ w => w))
  rw [e2'.1, kp]
  obtain ⟨y1, y2, y3, y4⟩ := y0_g
  refine ⟨rfl, rfl, rfl, Fr.stI (I := fun a _ => a = pg ∨ a = pg + 1) e2' (Or.inl rfl) _, ?_, ?_, ?_, ?_, fun k hk => ?_⟩
  · rw [iv_stI, if_neg (by omega), i2, h1e, iv_stI, if_neg (by omega), iv_stI, if_neg (by omega), iv_stI, if_pos ⟨rfl, rfl⟩, y1]; rfl
  · rw [iv_stI, if_neg (by omega), i2, h1e, iv_stI, if_neg (by omega), iv_stI, if_pos ⟨rfl, rfl⟩, y2]; rfl
  · rw [iv_stI, if_neg (by omega), i2, h1e, iv_stI, if_pos ⟨rfl, rfl⟩, y3]
  · rw [iv_stI, if_pos ⟨rfl, rfl⟩, i2, h1e, iv_stI, if_neg (by omega), iv_stI, if_neg (by omega), iv_stI, if_neg (by omega)]
    have := kI_of (ivA h pg 3)
    rw [← kI_add, ← this]
  · rw [iv_stI, if_neg (by omega), z2 k hk, y4]; rfl
/-- all is forgotten -/
def RdF (h : AH) (h' : AH) : Prop := (FN A0 h h') ∧ (Fix h') ∧ (szA h' = szA h) ∧ (usA h' = usA h) ∧ (ivA h' 36 11 = kI 0) ∧ (ivA h' 36 12 = kI (-1)) ∧ (ivA h' 36 7 = kI 0) ∧ (ivA h' 36 3 = ivA h 36 3) ∧ (rvA h' 36 9 = 0) ∧ (rvA h' 36 10 = 0) ∧ (∀ k, k < 12 → ivA h' 40 k = kI 0) ∧ (∃ v, XP (gY g0F) v 42 h')
theorem RdF.N {h : AH} {h' : AH} (C : RdF h h') : FN A0 h h' := C.1
theorem RdF.F {h : AH} {h' : AH} (C : RdF h h') : Fix h' := C.2.1
theorem RdF.sz {h : AH} {h' : AH} (C : RdF h h') : szA h' = szA h := C.2.2.1
theorem RdF.us {h : AH} {h' : AH} (C : RdF h h') : usA h' = usA h := C.2.2.2.1
theorem RdF.f {h : AH} {h' : AH} (C : RdF h h') : ivA h' 36 11 = kI 0 := C.2.2.2.2.1
theorem RdF.p {h : AH} {h' : AH} (C : RdF h h') : ivA h' 36 12 = kI (-1) := C.2.2.2.2.2.1
theorem RdF.hh {h : AH} {h' : AH} (C : RdF h h') : ivA h' 36 7 = kI 0 := C.2.2.2.2.2.2.1
theorem RdF.z {h : AH} {h' : AH} (C : RdF h h') : ivA h' 36 3 = ivA h 36 3 := C.2.2.2.2.2.2.2.1
theorem RdF.r9 {h : AH} {h' : AH} (C : RdF h h') : rvA h' 36 9 = 0 := C.2.2.2.2.2.2.2.2.1
theorem RdF.r10 {h : AH} {h' : AH} (C : RdF h h') : rvA h' 36 10 = 0 := C.2.2.2.2.2.2.2.2.2.1
theorem RdF.kd {h : AH} {h' : AH} (C : RdF h h') : ∀ k, k < 12 → ivA h' 40 k = kI 0 := C.2.2.2.2.2.2.2.2.2.2.1
theorem RdF.st {h : AH} {h' : AH} (C : RdF h h') : ∃ v, XP (gY g0F) v 42 h' := C.2.2.2.2.2.2.2.2.2.2.2
theorem Re_forget_g {h : AH} (F : Fix h) : GV 3 m_Re_forget [.ref 36] h (RdF h) := by
  refine GVo (s_Re_forget_0 ?_)
  simp only [kd_stI, kd_36 F]
  obtain ⟨h1, h1e⟩ : ∃ h1, h1 = stI (stI (stI (stI h 36 11 (kI 0)) 36 12 (kI (-1))) 36 7 (kI 0)) 36 8 (kI 0) := ⟨_, rfl⟩
  rw [← h1e]
  have e1 : Fr (fun x k => x = 36 ∧ (k = 7 ∨ k = 8 ∨ k = 11 ∨ k = 12)) JM h h1 := by rw [h1e]; exact ((((Fr_rfl (fun x k => x = 36 ∧ (k = 7 ∨ k = 8 ∨ k = 11 ∨ k = 12)) JM h).stI (by omega) _).stI (by omega) _).stI (by omega) _).stI (by omega) _
  refine ⟨rfl, rfl, rfl, rfl, rfl, s_Re_forget_25 ?_⟩
  obtain ⟨h2, h2e⟩ : ∃ h2, h2 = stR (stR h1 36 9 0) 36 10 0 := ⟨_, rfl⟩
  rw [← h2e]
  have F1' := e1.fix F
  have F2 : Fix h2 := by rw [h2e]; exact fix_36 (fix_36 F1' (Or.inl rfl)) (Or.inr rfl)
  have k0 : kdA (stR h1 36 9 0) 36 = 6 := by rw [kd_stR]; exact kd_36 F1'
  have k1 : kdA h1 36 = 6 := kd_36 F1'
  rw [show kdA (stR h1 36 9 0) 36 = 6 from k0, kd_36 F2, rv_36_1 F2]
  refine ⟨rfl, rfl, ?_⟩
  refine GV.use (Ar_fill2_g (kd_40 F2) (ln_40 F2) (by omega) (kI 0)) (by omega) (fun h3 e3 => ?_)
  obtain ⟨e3, z3⟩ := e3
  have F3 := e3.fix F2
  rw [kd_36 F3, rv_36_13 F3, kd_42 F3]
  refine ⟨rfl, rfl, ?_⟩
  refine GV.use (Pg_clear_g (pg := 42) (by unfold PG; omega) (kd_42 F3) (rv_42_4 F3) (kd_43 F3) (ln_43 F3)) (by omega) (fun h4 e4 => ?_)
  obtain ⟨e4, X4⟩ := e4
  have i4 : ∀ x k, x ≠ 40 → x ≠ 42 → x ≠ 43 → ivA h4 x k = ivA h1 x k := fun x k x1 x2 x3 => by
    rw [e4.2.2.2.2.2.1 x k (by omega), e3.2.2.2.2.2.1 x k (by omega), h2e, iv_stR, iv_stR]
  have r4 : ∀ k, rvA h4 36 k = rvA h2 36 k := fun k => by rw [e4.2.2.1, e3.2.2.1]
  have sz2 : szA h2 = szA h ∧ usA h2 = usA h := by rw [h2e]; exact ⟨e1.2.2.2.1, e1.2.2.2.2.1⟩
  refine ⟨rfl, ?_, e4.fix F3, ?_, ?_, ?_, ?_, ?_, ?_, ?_, ?_, fun k hk => ?_, _, X4⟩
  · refine FN.trans (e1.fn (fun x k w => by unfold A0; omega) (fun _ _ w => w.elim)) ?_
    refine FN.trans (h1 := h2) (by rw [h2e]; exact (FN_stR (by unfold A0; omega)).trans (FN_stR (by unfold A0; omega))) ?_
    exact FN.trans (e3.fn (fun x k w => by unfold A0; omega) (fun _ _ w => w.elim)) (e4.fn (fun x k w => by unfold A0; omega) (fun _ _ w => w.elim))
  · rw [e4.2.2.2.1, e3.2.2.2.1]; exact sz2.1
  · rw [e4.2.2.2.2.1, e3.2.2.2.2.1]; exact sz2.2
  · rw [i4 _ _ (by omega) (by omega) (by omega), h1e, iv_stI, if_neg (by omega), iv_stI, if_neg (by omega), iv_stI, if_neg (by omega), iv_stI, if_pos ⟨rfl, rfl⟩]
  · rw [i4 _ _ (by omega) (by omega) (by omega), h1e, iv_stI, if_neg (by omega), iv_stI, if_neg (by omega), iv_stI, if_pos ⟨rfl, rfl⟩]
  · rw [i4 _ _ (by omega) (by omega) (by omega), h1e, iv_stI, if_neg (by omega), iv_stI, if_pos ⟨rfl, rfl⟩]
  · rw [i4 _ _ (by omega) (by omega) (by omega), e1.2.2.2.2.2.1 36 3 (by omega)]
  · rw [r4, h2e, rv_stR, if_neg (by omega), rv_stR, if_pos ⟨rfl, rfl⟩]
  · rw [r4, h2e, rv_stR, if_pos ⟨rfl, rfl⟩]
  · rw [e4.2.2.2.2.2.1 40 k (by omega), z3 k hk]
/-! the head -/
def hd0F (tp : Nat → Nat) (n : Nat) : LR := if tKd tp n (tAt tp n 0) = 0 then hdF tp n (nxA tp n (tAt tp n 0)) g0F [] else .error (fkF tp n (tAt tp n 0) 2, tAt tp n 0)
theorem sht_hd (tp : Nat → Nat) (n : Nat) : shtF tp n = bnd (hd0F tp n) (fun a g cs => lnsF tp n (n + 1) a g cs) := by
  unfold shtF hd0F
  split <;> rfl
theorem XP.g0 {g : LG} {v : Int} {h : AH} (X : XP (gY g0F) v 42 h) (h1 : g 22 = 0) (h2 : g 23 = 12) (h3 : ∀ k, k < 4 → g (25 + k) = 0) : XP (gY g) v 42 h := by
  obtain ⟨y1, y2, y3, y4⟩ := y0_g
  refine ⟨?_, ?_, X.i2, X.i3, fun k hk => ?_⟩
  · rw [X.i0, y1]; show _ = kI ((g 22).toNat : Nat); rw [h1]; rfl
  · rw [X.i1, y2]; show _ = kI (lx (g 23).toNat); rw [h2]; rfl
  · rw [X.b k hk, y4]; show _ = kI ((if k < 4 then (g (25 + k)).toNat else 0 : Nat) : Int); rw [if_pos hk, h3 k hk]; rfl
theorem Re_head_g {tp : Nat → Nat} {n : Nat} {h : AH} (S : RdL tp n (tAt tp n 0) h) (hh : ivA h 36 7 = kI 0) (kd : ∀ k, k < 12 → ivA h 40 k = kI 0) (st : ∃ v, XP (gY g0F) v 42 h) : GV 3 m_Re_head [.ref 36] h (XLo tp n (hd0F tp n) h) := by
  have F := S.R.F
  -- a fault, wherever it came
  have dead5 : ∀ (r : Nat × Nat) h4 (x : Int32), FLx h h4 → RdB tp n r h4 → (decide (kdA h4 36 = 6)) = true ∧ (decide (kdA (stI h4 36 6 x) 36 = 6)) = true ∧ CallV 2 m_Re_expect [.ref 36, .int (kI 59)] (stI h4 36 6 x) (fun h6 => (decide (kdA h6 36 = 6)) = true ∧ Eqv none none ∧ XLo tp n (.error r) h (stI h6 36 8 (kI 1))) := fun r h4 x e4 B => by
    have B5 : RdB tp n r (stI h4 36 6 x) := B.fe (F1_st h4 36 6 x) (fun x k z => by omega)
    rw [Re_expect_b B5 (by omega), kd_36 B.R.F, kd_stI, kd_36 B.R.F]
    exact ⟨rfl, rfl, rfl, rfl, (lx_st (lx_st e4 (by omega) _) (by omega) _), B5.fe (F1_st _ 36 8 _) (fun x k z => by omega)⟩
  have dead2 : ∀ (r : Nat × Nat) h2, FLx h h2 → RdB tp n r h2 → (decide (kdA h2 36 = 6)) = true ∧ (decide (kdA (stI h2 36 5 (kI 1)) 36 = 6)) = true ∧ (!decide (ivA (stI h2 36 5 (kI 1)) 36 5 = 0)) = true ∧ (decide (kdA (stI h2 36 5 (kI 1)) 36 = 6)) = true ∧ CallI 2 m_Re_number [.ref 36, .int (kI 1), .int (kI 12 / ivA (stI h2 36 5 (kI 1)) 36 5)] (stI h2 36 5 (kI 1)) (fun x5 h4 => (decide (kdA h4 36 = 6)) = true ∧ (decide (kdA (stI h4 36 6 x5) 36 = 6)) = true ∧ CallV 2 m_Re_expect [.ref 36, .int (kI 59)] (stI h4 36 6 x5) (fun h6 => (decide (kdA h6 36 = 6)) = true ∧ Eqv none none ∧ XLo tp n (.error r) h (stI h6 36 8 (kI 1)))) := fun r h2 e2 B => by
    have B3 : RdB tp n r (stI h2 36 5 (kI 1)) := B.fe (F1_st h2 36 5 _) (fun x k z => by omega)
    have v5 : ivA (stI h2 36 5 (kI 1)) 36 5 = kI 1 := by rw [iv_stI, if_pos ⟨rfl, rfl⟩]
    have k3 : kdA (stI h2 36 5 (kI 1)) 36 = 6 := kd_36 B3.R.F
    refine ⟨by rw [kd_36 B.R.F]; rfl, by rw [k3]; rfl, by rw [v5]; rfl, by rw [k3]; rfl, ?_⟩
    rw [Re_number_b B3 (by omega)]
    exact dead5 r _ _ (lx_st e2 (by omega) _) B3
  have c11 : (if kI 1 < kI ((1 : Nat) : Int) then kI ((1 : Nat) : Int) else kI 1) = kI 1 := by decide
  refine GVo (s_Re_head_0 ?_)
  rw [kd_36 F]
  refine ⟨rfl, ?_⟩
  unfold hd0F
  by_cases q0 : tKd tp n (tAt tp n 0) = 0
  · rw [if_pos q0]
    refine GV.use (Re_expect_y (k := 0) (c := 200) S (by omega) (by decide) (by omega) rfl (by omega) q0) (by omega) (fun h1 e1 => ?_)
    rw [kd_36 e1.2.R.F]
    refine ⟨rfl, ?_⟩
    unfold hdF
    cases ht : tkF tp n 1 12 (nxA tp n (tAt tp n 0)) with
    | error x =>
      refine GI.use (Re_number_n (lo := 1) (hi := 12) e1.2 (by omega) (by omega) ht) (by omega) (fun h2 e2 => ?_)
      rw [c11]
      exact dead2 x h2 ((lx_ad e1.1).trans (lx_rf e2.1)) e2.2
    | ok p =>
      have t := tkF_ok (b := p.1) (v := p.2) ht
      refine GI.use (Re_number_y (lo := 1) (hi := 12) e1.2 (by omega) (by omega) ht) (by omega) (fun h2 e2 => ?_)
      dsimp only
      rw [mx1 t.2.2.1 (by omega)]
      obtain ⟨h3, h3e⟩ : ∃ h3, h3 = stI h2 36 5 (kI (p.2 : Nat)) := ⟨_, rfl⟩
      rw [← h3e]
      have v5 : ivA h3 36 5 = kI (p.2 : Nat) := by rw [h3e, iv_stI, if_pos ⟨rfl, rfl⟩]
      have L3 : RdL tp n p.1 h3 := by rw [h3e]; exact e2.2.fe (F1_st h2 36 5 _) (fun x k z => by omega)
      have f3 : FLx h h3 := by rw [h3e]; exact lx_st ((lx_ad e1.1).trans (lx_ad e2.1)) (by omega) _
      rw [v5, kd_36 e2.2.R.F, kd_36 L3.R.F, show kI 12 / kI (p.2 : Int) = kI ((12 / p.2 : Nat) : Int) from kI_ndiv (a := 12) (by omega) (by omega) (by omega)]
      refine ⟨rfl, rfl, by rw [Bool.not_eq_true', decide_eq_false_iff_not, z0, kI_inj (by omega) (by omega) (by omega) (by omega)]; omega, rfl, ?_⟩
      have d12 : 12 / p.2 ≤ 12 := Nat.div_le_self _ _
      cases hu : tkF tp n 1 (12 / p.2) p.1 with
      | error x =>
        refine GI.use (Re_number_n (lo := 1) (hi := 12 / p.2) L3 (by omega) (by omega) hu) (by omega) (fun h4 e4 => ?_)
        exact dead5 x h4 _ (f3.trans (lx_rf e4.1)) e4.2
      | ok r =>
        have u := tkF_ok (b := r.1) (v := r.2) hu
        refine GI.use (Re_number_y (lo := 1) (hi := 12 / p.2) L3 (by omega) (by omega) hu) (by omega) (fun h4 e4 => ?_)
        dsimp only
        obtain ⟨h5, h5e⟩ : ∃ h5, h5 = stI h4 36 6 (kI (r.2 : Nat)) := ⟨_, rfl⟩
        rw [← h5e]
        have L5 : RdL tp n r.1 h5 := by rw [h5e]; exact e4.2.fe (F1_st h4 36 6 _) (fun x k z => by omega)
        have f5 : FLx h h5 := by rw [h5e]; exact lx_st (f3.trans (lx_ad e4.1)) (by omega) _
        have i5 : ∀ x k, x ≠ 37 → (x ≠ 36 ∨ (k ≠ 5 ∧ k ≠ 6)) → ivA h5 x k = ivA h x k := fun x k x1 x2 => by
          rw [h5e, iv_stI, if_neg (by omega), e4.1.2.2.2.2.2.1 x k (by omega), h3e, iv_stI, if_neg (by omega), e2.1.2.2.2.2.2.1 x k (by omega), e1.1.2.2.2.2.2.1 x k (by omega)]
        rw [kd_36 e4.2.R.F, kd_36 L5.R.F]
        refine ⟨rfl, rfl, ?_⟩
        unfold endF
        by_cases q : tKd tp n r.1 = 30
        · rw [if_pos q]
          refine GV.use (Re_expect_y (k := 30) (c := 59) L5 (by omega) (by decide) (by omega) rfl (by omega) q) (by omega) (fun h6 e6 => ?_)
          have i6 : ∀ x k, x ≠ 37 → (x ≠ 36 ∨ k ≠ 8) → ivA (stI h6 36 8 (kI 1)) x k = ivA h5 x k := fun x k x1 x2 => by rw [iv_stI, if_neg (by omega), e6.1.2.2.2.2.2.1 x k (by omega)]
          rw [kd_36 e6.2.R.F]
          refine ⟨rfl, rfl, lx_st (f5.trans (lx_ad e6.1)) (by omega) _, e6.2.fe (F1_st h6 36 8 _) (fun x k z => by omega), ?_⟩
          have gv : ∀ j, j ≠ 0 → j ≠ 1 → j ≠ 2 → upG (upG (upG g0F 1 (p.2 : Nat)) 2 (r.2 : Nat)) 0 (upG (upG g0F 1 (p.2 : Nat)) 2 (r.2 : Nat) 0 + 1) j = g0F j := fun j j0 j1 j2 => by rw [upG_ne j0, upG_ne j2, upG_ne j1]
          show XG (upG (upG (upG g0F 1 (p.2 : Nat)) 2 (r.2 : Nat)) 0 (upG (upG g0F 1 (p.2 : Nat)) 2 (r.2 : Nat) 0 + 1)) _
          refine ⟨?_, ?_, ?_, ?_, fun k hk => ?_, ?_⟩
          · rw [i6 _ _ (by omega) (by omega), h5e, iv_stI, if_neg (by omega), e4.1.2.2.2.2.2.1 36 5 (by omega), v5]
            rw [upG_ne (by omega), upG_ne (by omega), upG_eq]
          · rw [i6 _ _ (by omega) (by omega), h5e, iv_stI, if_pos ⟨rfl, rfl⟩]
            rw [upG_ne (by omega), upG_eq]
          · rw [i6 _ _ (by omega) (by omega), i5 _ _ (by omega) (by omega), hh]
            rw [gv 3 (by omega) (by omega) (by omega)]
            rfl
          · rw [iv_stI, if_pos ⟨rfl, rfl⟩]
            rw [upG_eq, upG_ne (by omega), upG_ne (by omega)]
            rfl
          · rw [i6 _ _ (by omega) (by omega), i5 _ _ (by omega) (by omega), kd k hk]
            rw [gv _ (by omega) (by omega) (by omega)]
            have : g0F (10 + k) = 0 := by unfold g0F; rw [if_neg (by omega), if_neg (by omega), if_neg (by omega)]
            rw [this]
          · obtain ⟨v, X⟩ := st
            have X6 : XP (gY g0F) v 42 (stI h6 36 8 (kI 1)) := ⟨by rw [i6 _ _ (by omega) (by omega), i5 _ _ (by omega) (by omega)]; exact X.i0, by rw [i6 _ _ (by omega) (by omega), i5 _ _ (by omega) (by omega)]; exact X.i1, by rw [i6 _ _ (by omega) (by omega), i5 _ _ (by omega) (by omega)]; exact X.i2, by rw [i6 _ _ (by omega) (by omega), i5 _ _ (by omega) (by omega)]; exact X.i3, fun k hk => by rw [i6 _ _ (by omega) (by omega), i5 _ _ (by omega) (by omega)]; exact X.b k hk⟩
            refine ⟨v, X6.g0 ?_ ?_ (fun k hk => ?_)⟩
            · rw [gv _ (by omega) (by omega) (by omega)]; rfl
            · rw [gv _ (by omega) (by omega) (by omega)]; rfl
            · rw [gv _ (by omega) (by omega) (by omega)]
              unfold g0F
              rw [if_neg (by omega), if_neg (by omega), if_neg (by omega)]
        · rw [if_neg q]
          refine GV.use (Re_expect_n (k := 30) (c := 59) L5 (by omega) (by decide) (by omega) rfl q) (by omega) (fun h6 e6 => ?_)
          rw [kd_36 e6.2.R.F]
          exact ⟨rfl, rfl, lx_st (f5.trans (lx_rf e6.1)) (by omega) _, e6.2.fe (F1_st h6 36 8 _) (fun x k z => by omega)⟩
  · rw [if_neg q0]
    refine GV.use (Re_expect_n (k := 0) (c := 200) S (by omega) (by decide) (by omega) rfl q0) (by omega) (fun h1 e1 => ?_)
    have c11' : (if kI 1 < kI 1 then kI 1 else kI 1) = kI 1 := ite_self _
    rw [Re_number_b e1.2 (by omega), c11']
    refine ⟨by rw [kd_36 e1.2.R.F]; rfl, ?_⟩
    exact dead2 _ h1 (lx_rf e1.1) e1.2
