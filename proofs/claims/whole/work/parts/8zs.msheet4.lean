/-! the head of a text -/
def hdF (tp : Nat → Nat) (n a : Nat) (g : LG) (cs : List Nat) : LR := match tkF tp n 1 12 a with
  | .error e => .error e
  | .ok p => match tkF tp n 1 (12 / p.2) p.1 with
    | .error e => .error e
    | .ok r => endF tp n r.1 (upG (upG g 1 (p.2 : Nat)) 2 (r.2 : Nat)) cs
theorem div12 : ∀ r : Nat, r < 13 → r ≠ 0 → kI 12 / kI (r : Int) = kI ((12 / r : Nat) : Int) := by decide +kernel
theorem M_sheet_66g {tp : Nat → Nat} {n law a : Nat} {g : LG} {cs : List Nat} {h : AH} (hn : n ≤ 900) (M : ML tp n law a g cs h) (hl : law ≤ 4294967295) {H D : Nat} (gH : g 3 = H) (gD : g 22 = D) (h4 : H ≤ 4) (le : cs.length ≤ a) {d : Nat} (hd : 41 ≤ d) {Q : Option Value → AH → Prop} (K : ∀ h', MPl tp n (bnd (hdF tp n a g cs) (fun a g cs => lnsF tp n (n + 1) a g cs)) h h' → Safe d m_M_sheet (142, [.ref 88, unV, unV], [], h') Q) : Safe d m_M_sheet (66, [.ref 88, unV, unV], [], h) Q := by
  have S := M.1
  have F := S.F
  have an := S.an
  have b1 : inB (kI 1) 1001 = true := inB_lit (by omega) (by omega) (by omega)
  have x1 : ix (kI 1) = 1 := ix_kI (n := 1) (by omega)
  have b2 : inB (kI 2) 1001 = true := inB_lit (by omega) (by omega) (by omega)
  have x2 : ix (kI 2) = 2 := ix_kI (n := 2) (by omega)
  refine s_M_sheet_66 ?_
  rw [kd_88 F, rv_88_4 F]
  refine ⟨rfl, rfl, ?_⟩
  cases ht : tkF tp n 1 12 a with
  | error e =>
    have eh : hdF tp n a g cs = .error e := by unfold hdF; rw [ht]
    rw [eh] at K
    obtain ⟨x, hx⟩ := M_takes_n S (lo := 1) (hi := 12) (by omega) (by omega) ht
    refine GI.use hx (by omega) (fun h1 e1 => ?_)
    have B := e1.2.1
    rw [kd_92 B.1, ln_92 B.1, b1, x1]
    obtain ⟨B1, f1, i1⟩ := B.st 1 x
    rw [kd_88 B1.1, if_pos B1.nz.1, rv_88_4 B1.1]
    refine ⟨rfl, rfl, rfl, rfl, ?_⟩
    exact M_sheet_107d hd B1 (fun h' e2 => K h' ⟨(ln_of e1.1).trans (f1.trans e2.1), e2.2.1, by rw [e2.2.2.1, i1]; exact e1.2.2.1, by rw [e2.2.2.2, i1]; exact e1.2.2.2⟩)
  | ok p =>
    obtain ⟨hx, t1, t2, t3, t4, t5⟩ := M_takes_y S (lo := 1) (hi := 12) (by omega) (by omega) (b := p.1) (v := p.2) ht
    refine GI.use hx (by omega) (fun h1 e1 => ?_)
    have M1 := M.rd e1.1 e1.2
    have F1 := M1.1.F
    rw [kd_92 F1, ln_92 F1, b1, x1]
    have M2 := M1.st (k := 1) (by omega) ((p.2 : Nat) : Int)
    have S2 := M2.1.1
    have F2 := S2.F
    have c1 := M2.1.2 1 (by omega)
    rw [upG_eq] at c1
    have nz : (!decide (kI ((p.2 : Nat) : Int) = 0)) = true := by rw [Bool.not_eq_true', decide_eq_false_iff_not, z0, kI_inj (by omega) (by omega) (by omega) (by omega)]; omega
    rw [kd_88 F2, S2.i11, if_neg (by decide), rv_88_4 F2, kd_92 F2, ln_92 F2, b1, c1, nz, div12 p.2 (by omega) (by omega)]
    refine ⟨rfl, rfl, rfl, rfl, rfl, rfl, rfl, rfl, ?_⟩
    have f2 := (ln_of e1.1).trans M2.2
    refine s_M_sheet_107 ?_
    rw [kd_88 F2]
    refine ⟨rfl, ?_⟩
    have d12 : 12 / p.2 ≤ 12 := Nat.div_le_self _ _
    cases ht2 : tkF tp n 1 (12 / p.2) p.1 with
    | error e =>
      have eh : hdF tp n a g cs = .error e := by unfold hdF; rw [ht]; dsimp only; rw [ht2]
      rw [eh] at K
      obtain ⟨x, hx⟩ := M_takes_n S2 (lo := 1) (hi := 12 / p.2) (by omega) (by omega) ht2
      refine GI.use hx (by omega) (fun h3 e3 => ?_)
      have B := e3.2.1
      rw [kd_92 B.1, ln_92 B.1, b2, x2]
      obtain ⟨B1, f3, i3⟩ := B.st 2 x
      rw [kd_88 B1.1]
      refine ⟨rfl, rfl, rfl, ?_⟩
      refine GV.use (M_ends1_d B1) (by omega) (fun h4 e4 => ?_)
      refine s_M_sheet_115 ?_
      rw [kd_88 e4.2.1.1, if_pos e4.2.1.nz.1]
      exact ⟨rfl, K h4 ⟨f2.trans ((ln_of e3.1).trans (f3.trans e4.1)), e4.2.1, by rw [e4.2.2.1, i3]; exact e3.2.2.1, by rw [e4.2.2.2, i3]; exact e3.2.2.2⟩⟩
    | ok r =>
      obtain ⟨hx, u1, u2, u3, u4, u5⟩ := M_takes_y S2 (lo := 1) (hi := 12 / p.2) (by omega) (by omega) (b := r.1) (v := r.2) ht2
      have eh : hdF tp n a g cs = endF tp n r.1 (upG (upG g 1 (p.2 : Nat)) 2 (r.2 : Nat)) cs := by unfold hdF; rw [ht]; dsimp only; rw [ht2]
      rw [eh] at K
      refine GI.use hx (by omega) (fun h3 e3 => ?_)
      have M3 := M2.1.rd e3.1 e3.2
      have F3 := M3.1.F
      rw [kd_92 F3, ln_92 F3, b2, x2]
      have M4 := M3.st (k := 2) (by omega) ((r.2 : Nat) : Int)
      rw [kd_88 M4.1.1.F]
      refine ⟨rfl, rfl, rfl, ?_⟩
      have f4 := f2.trans ((ln_of e3.1).trans M4.2)
      have G4 : GW (upG (upG g 1 ((p.2 : Nat) : Int)) 2 ((r.2 : Nat) : Int)) := by
        refine ⟨p.2, r.2, H, D, by rw [upG_ne (by omega), upG_eq], by rw [upG_eq], by rw [upG_ne (by omega), upG_ne (by omega)]; exact gH, by rw [upG_ne (by omega), upG_ne (by omega)]; exact gD, t4, u4, ?_, h4⟩
        exact Nat.le_trans (Nat.mul_le_mul_left _ u5) (Nat.mul_div_le 12 p.2)
      refine GV.use (M_ends1_g M4.1 hl) (by omega) (fun h5 e5 => ?_)
      cases he : endF tp n r.1 (upG (upG g 1 (p.2 : Nat)) 2 (r.2 : Nat)) cs with
      | error e =>
        rw [he] at e5 K
        refine s_M_sheet_115 ?_
        rw [kd_88 e5.2.1.1, if_pos e5.2.1.nz.1]
        exact ⟨rfl, K h5 ⟨f4.trans e5.1, e5.2⟩⟩
      | ok q =>
        rw [he] at e5 K
        obtain ⟨f5, law5, hl5, M5⟩ := e5
        have i5 := end_ok G4 (by omega) he
        exact M_sheet_115 hn hd (n + 1) q.1 q.2.1 q.2.2 law5 h5 (by omega) i5.2.1 hl5 i5.2.2.1 i5.2.2.2 (f4.trans f5) M5 K
