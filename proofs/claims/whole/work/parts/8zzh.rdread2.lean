/-! the loop over the lines -/
theorem XG.lnst {g : LG} {h : AH} (G : XG g h) : XG (upG g 0 (g 0 + 1)) (stI h 36 8 (ivA h 36 8 + kI 1)) := by
  have o : ∀ y k, (y ≠ 36 ∨ k ≠ 8) → ivA (stI h 36 8 (ivA h 36 8 + kI 1)) y k = ivA h y k := fun y k hy => by rw [iv_stI, if_neg (by omega)]
  refine ⟨by rw [o _ _ (by omega), upG_ne (by omega)]; exact G.r, by rw [o _ _ (by omega), upG_ne (by omega)]; exact G.w, by rw [o _ _ (by omega), upG_ne (by omega)]; exact G.hh, by rw [iv_stI, if_pos ⟨rfl, rfl⟩, upG_eq, G.ln, kI_add], fun k hk => by rw [o _ _ (by omega), upG_ne (by omega)]; exact G.kd k hk, ?_⟩
  obtain ⟨v, X⟩ := G.st
  rw [gY_up (by omega)]
  exact ⟨v, X.fr (F1_st h 36 8 _) (fun k => by omega)⟩
theorem lx_8 (h : AH) (x : Int32) : FLx h (stI h 36 8 x) := lx_st (Fr_rfl _ _ _) (by omega) x
theorem RQb.fl {tp : Nat → Nat} {n : Nat} {h0 h h' : AH} {r : Nat × Nat} (Q : RQb tp n h0 r h) (e : FLx h h') (B : RdB tp n r h') : RQb tp n h0 r h' := ⟨B, Q.N.trans (lx_fn e), by rw [e.2.2.2.2.1]; exact Q.us, by rw [e.2.2.2.1]; exact Q.sz⟩
theorem X_read_19b {tp : Nat → Nat} {n d : Nat} {h0 h : AH} {r : Nat × Nat} {i : Int32} {Q : Option Value → AH → Prop} (B : RQb tp n h0 r h) (s : Safe d m_Re_read (159, [.ref 36, unV, unV, unV], [], h) Q) : Safe d m_Re_read (19, [.ref 36, unV, unV, .int i], [], h) Q := by
  refine s_Re_read_19 ?_
  rw [if_pos B.B.nz.1, kd_36 B.B.R.F]
  split
  · exact s
  · exact ⟨rfl, s⟩
theorem X_read_137 {tp : Nat → Nat} {n d i : Nat} {h0 h : AH} {r : LR} {Q : Option Value → AH → Prop} (hd : 2 ≤ d) (P : RQo tp n h0 r h) (hk : ∀ h', RQo tp n h0 (bnd r (fun a g cs => endF tp n a g cs)) h' → Safe d m_Re_read (19, [.ref 36, unV, unV, .int (kI ((i + 1 : Nat) : Int))], [], h') Q) : Safe d m_Re_read (137, [.ref 36, unV, unV, .int (kI i)], [], h) Q := by
  refine s_Re_read_137 ?_
  rw [kI_add]
  cases r with
  | error e =>
    have B : RQb tp n h0 e h := P
    rw [kd_36 B.B.R.F, Re_expect_b B.B hd, kd_36 B.B.R.F]
    exact ⟨rfl, rfl, rfl, hk _ (B.fl (lx_8 h _) (B.B.fe (F1_st h 36 8 _) (fun x k z => by omega)))⟩
  | ok q =>
    have S : RQ tp n h0 q.1 q.2.1 q.2.2 h := P
    have F := S.L.R.F
    rw [kd_36 F]
    refine ⟨rfl, ?_⟩
    have hk' : ∀ h', RQo tp n h0 (endF tp n q.1 q.2.1 q.2.2) h' → Safe d m_Re_read (19, [.ref 36, unV, unV, .int (kI ((i + 1 : Nat) : Int))], [], h') Q := hk
    by_cases z : tKd tp n q.1 = 30
    · have ee : endF tp n q.1 q.2.1 q.2.2 = .ok (nxA tp n q.1, upG q.2.1 0 (q.2.1 0 + 1), q.2.2) := by unfold endF; rw [if_pos z]
      have gx := end_gx S.X ee
      rw [ee] at hk'
      refine GV.use (Re_expect_y (k := 30) (c := 59) S.L (by omega) (by decide) (by omega) rfl (by omega) z) hd (fun h1 e1 => ?_)
      have nb := nxA_b (tp := tp) (kd_n (tp := tp) (n := n) (a := q.1) (by omega))
      rw [kd_36 e1.2.R.F]
      refine ⟨rfl, rfl, hk' _ ?_⟩
      exact S.lx ((lx_ad e1.1).trans (lx_8 h1 _)) (e1.2.fe (F1_st h1 36 8 _) (fun x k z => by omega)) (S.G.fa e1.1).lnst gx (by omega) (fun j j1 j2 => upG_ne (by omega))
    · have ee : endF tp n q.1 q.2.1 q.2.2 = .error (fkF tp n q.1 2, q.1) := by unfold endF; rw [if_neg z]
      rw [ee] at hk'
      refine GV.use (Re_expect_n (k := 30) (c := 59) S.L (by omega) (by decide) (by omega) rfl z) hd (fun h1 e1 => ?_)
      rw [kd_36 e1.2.R.F]
      exact ⟨rfl, rfl, hk' _ (S.bad ((lx_rf e1.1).trans (lx_8 h1 _)) (e1.2.fe (F1_st h1 36 8 _) (fun x k z => by omega)))⟩
theorem X_read_loop {tp : Nat → Nat} {n d : Nat} {h0 : AH} {Q : Option Value → AH → Prop} (hn : n ≤ 900) (hz : szA h0 + 3 * n < 980000) (hd : 18 ≤ d) : ∀ f a g cs h i, n - a + 1 ≤ f → RQ tp n h0 a g cs h → i ≤ a → (∀ h', RQo tp n h0 (lnsF tp n f a g cs) h' → Safe d m_Re_read (159, [.ref 36, unV, unV, unV], [], h') Q) → Safe d m_Re_read (19, [.ref 36, unV, unV, .int (kI (i : Nat))], [], h) Q := by
  intro f
  induction f with
  | zero => intro a g cs h i hf; omega
  | succ f ih =>
    intro a g cs h i hf S ia K
    have F := S.L.R.F
    have an := S.L.an
    have e0 : (decide (kI (cdX tp n a : Nat) = 0) = true) ↔ tKd tp n a = 24 := cd_ne (k := 24) (c := 0) (by omega) (by decide) (by omega) rfl
    have e206 : ((!decide (kI (cdX tp n a : Nat) = kI 206)) = true) ↔ tKd tp n a ≠ 6 := cd_nn (k := 6) (c := 206) (by omega) (by decide) (by omega) rfl
    have e207 : ((!decide (kI (cdX tp n a : Nat) = kI 207)) = true) ↔ tKd tp n a ≠ 7 := cd_nn (k := 7) (c := 207) (by omega) (by decide) (by omega) rfl
    refine s_Re_read_19 ?_
    rw [if_neg S.L.nz, rv_36_0 F, kd_36 F, kd_37 F, S.L.K.c]
    by_cases q24 : tKd tp n a = 24
    · have eP : lnsF tp n (f + 1) a g cs = .ok (a, g, cs) := by rw [lnsF, if_pos q24]
      rw [eP] at K
      have s := K h S
      rw [if_pos (e0.mpr q24)]
      split
      · exact s
      · exact ⟨rfl, rfl, rfl, s⟩
    · have a1 := kd_n (tp := tp) (n := n) (a := a) q24
      have nb := nxA_b (tp := tp) a1
      have eP : lnsF tp n (f + 1) a g cs = bnd (linF tp n a g cs) (fun a1 g1 c1 => bnd (endF tp n a1 g1 c1) (fun a2 g2 c2 => lnsF tp n f a2 g2 c2)) := by rw [lnsF, if_neg q24]
      rw [eP] at K
      rw [if_neg (by rw [decide_eq_true_eq, kI_le (by omega) (by omega) (by omega) (by omega)]; omega), if_neg (fun z => q24 (e0.mp z))]
      -- what follows a line
      have after : ∀ h1, RQo tp n h0 (linF tp n a g cs) h1 → Safe d m_Re_read (137, [.ref 36, unV, unV, .int (kI (i : Nat))], [], h1) Q := fun h1 P => by
        refine X_read_137 (by omega) P (fun h2 P2 => ?_)
        cases hr : linF tp n a g cs with
        | error x =>
          rw [hr] at P2 K
          exact X_read_19b P2 (K h2 P2)
        | ok p =>
          rw [hr] at P2 K P
          have lo := lin_ok a1 S.X.gw S.le hr
          have P2' : RQo tp n h0 (endF tp n p.1 p.2.1 p.2.2) h2 := P2
          have K' : ∀ h', RQo tp n h0 (bnd (endF tp n p.1 p.2.1 p.2.2) (fun a2 g2 c2 => lnsF tp n f a2 g2 c2)) h' → Safe d m_Re_read (159, [.ref 36, unV, unV, unV], [], h') Q := K
          cases hr2 : endF tp n p.1 p.2.1 p.2.2 with
          | error x =>
            rw [hr2] at P2' K'
            exact X_read_19b P2' (K' h2 P2')
          | ok p2 =>
            rw [hr2] at P2' K'
            have eo := end_ok lo.2.2.1 lo.2.2.2 hr2
            exact ih p2.1 p2.2.1 p2.2.2 h2 (i + 1) (by omega) P2' (by omega) K'
      -- a law's line
      have law : ∀ lw, lw ≤ 1 → tKd tp n a = lw + 6 → ∀ h1, (FLx h h1 ∧ (∀ k, 5 ≤ k → k ≤ 8 → ivA h1 36 k = ivA h 36 k) ∧ (∀ x k, 40 ≤ x → ivA h1 x k = ivA h x k) ∧ (tKd tp n (nxA tp n a) = 31 → RdS tp n lw (nxA tp n (nxA tp n a)) [] h1) ∧ (tKd tp n (nxA tp n a) ≠ 31 → RdB tp n (fkF tp n (nxA tp n a) 2, nxA tp n a) h1)) → ∃ r, (if tKd tp n (nxA tp n a) = 31 then PP tp n lw (7 * n + 7) (if lw = 1 then 3 else 9) 0 (nxA tp n (nxA tp n a)) [] else .error (fkF tp n (nxA tp n a) 2, nxA tp n a)) = r ∧ (kdA h1 36 = 6) ∧ ∀ KK : AH → Prop, (∀ h2, FLx h h2 → (∀ k, 5 ≤ k → k ≤ 8 → ivA h2 36 k = ivA h 36 k) → (∀ x k, (x = 40 ∨ x = 42 ∨ x = 43) → ivA h2 x k = ivA h x k) → RdO tp n lw r h2 → KK h2) → (if lw = 1 then CallV d m_Re_sum [.ref 36, .int (kI 0)] h1 KK else CallV d m_Re_truth [.ref 36, .int (kI 0)] h1 KK) := fun lw hl T h1 P => by
        obtain ⟨f1, i58, i40, y31, n31⟩ := P
        by_cases z : tKd tp n (nxA tp n a) = 31
        · have S1 := y31 z
          have a2 := kd_n (tp := tp) (n := n) (a := nxA tp n a) (by omega)
          have nb2 := nxA_b (tp := tp) a2
          have pr := X_parse (tp := tp) (n := n) (law := lw) hn hl (7 * n + 7)
          refine ⟨_, if_pos z, kd_36 S1.1.R.F, fun KK hK => ?_⟩
          have fin : ∀ r h2, RPo tp n lw r h1 h2 → FLx h h2 ∧ (∀ k, 5 ≤ k → k ≤ 8 → ivA h2 36 k = ivA h 36 k) ∧ (∀ x k, (x = 40 ∨ x = 42 ∨ x = 43) → ivA h2 x k = ivA h x k) ∧ RdO tp n lw r h2 := fun r h2 e => ⟨f1.trans (lx_re e.1), fun k k1 k2 => by rw [e.1.2.2.2.2.2.1 36 k (by omega)]; exact i58 k k1 k2, fun x k hx => by rw [e.1.2.2.2.2.2.1 x k (by omega)]; exact i40 x k (by omega), e.2⟩
          by_cases w : lw = 1
          · rw [if_pos w]
            rw [if_pos w] at hK
            refine GV.use (pr.2.1 0 _ [] h1 (by omega) S1 (by show 0 + 1 ≤ _; omega) (by omega)) (by omega) (fun h2 e2 => ?_)
            obtain ⟨q1, q2, q3, q4⟩ := fin _ h2 e2
            exact hK h2 q1 q2 q3 q4
          · rw [if_neg w]
            rw [if_neg w] at hK
            refine GV.use (pr.2.2.2 0 _ [] h1 (by omega) S1 (by show 0 + 1 ≤ _; omega) (by omega)) (by omega) (fun h2 e2 => ?_)
            obtain ⟨q1, q2, q3, q4⟩ := fin _ h2 e2
            exact hK h2 q1 q2 q3 q4
        · have B := n31 z
          refine ⟨_, if_neg z, kd_36 B.R.F, fun KK hK => ?_⟩
          have := hK h1 f1 i58 (fun x k hx => i40 x k (by omega)) B
          by_cases w : lw = 1
          · rw [if_pos w, Re_sum_b B (by omega)]
            exact this
          · rw [if_neg w, Re_truth_b B (by omega)]
            exact this
      by_cases q6 : tKd tp n a = 6
      · rw [if_neg (fun z => e206.mp z q6)]
        refine ⟨rfl, rfl, rfl, rfl, rfl, rfl, GV.use (Re_beginLaw_g (law := 0) S.L a1 (by omega)) (by omega) (fun h1 e1 => ?_)⟩
        obtain ⟨r, er, k1, go⟩ := law 0 (by omega) (by omega) h1 e1
        rw [k1]
        refine ⟨rfl, ?_⟩
        have go' := go _ (fun h2 f2 i58 i40 P => (?_ : (decide (kdA (nwA h2 2 3) 36 = 6)) = true ∧ (decide (kdA (nwA h2 2 3) 36 = 6)) = true ∧ (!decide ((szA h2 + 1) = 0)) = true ∧ CallV d m_La_new [.ref (szA h2 + 1), .ref (rvA (nwA h2 2 3) 36 2), .int (ivA (nwA h2 2 3) 36 3)] (nwA h2 2 3) (fun h7 => (decide (kdA h7 36 = 6)) = true ∧ Safe d m_Re_read (137, [.ref 36, unV, unV, .int (kI (i : Nat))], [], stR h7 36 9 (szA h2 + 1)) Q)))
        · rw [if_neg (by omega)] at go'
          exact go'
        · have k2 : kdA (nwA h2 2 3) 36 = 6 := by rw [kd_nw, if_neg (by rw [f2.2.2.2.1]; have := F.2.2.2; omega), f2.1]; exact kd_36 F
          refine ⟨by rw [k2]; rfl, by rw [k2]; rfl, by simp, ?_⟩
          exact X_lawEnd (lw := 0) (by omega) S a1 f2 hz (by omega) er i58 i40 P (by omega) (fun h4 k4 P4 => ⟨by rw [k4]; rfl, after _ P4⟩)
      · rw [if_pos (e206.mpr q6)]
        by_cases q7 : tKd tp n a = 7
        · rw [if_neg (fun z => e207.mp z q7)]
          refine ⟨rfl, rfl, rfl, rfl, rfl, rfl, rfl, rfl, GV.use (Re_beginLaw_g (law := 1) S.L a1 (by omega)) (by omega) (fun h1 e1 => ?_)⟩
          obtain ⟨r, er, k1, go⟩ := law 1 (by omega) (by omega) h1 e1
          rw [k1]
          refine ⟨rfl, ?_⟩
          have go' := go _ (fun h2 f2 i58 i40 P => (?_ : (decide (kdA (nwA h2 2 3) 36 = 6)) = true ∧ (decide (kdA (nwA h2 2 3) 36 = 6)) = true ∧ (!decide ((szA h2 + 1) = 0)) = true ∧ CallV d m_La_new [.ref (szA h2 + 1), .ref (rvA (nwA h2 2 3) 36 2), .int (ivA (nwA h2 2 3) 36 3)] (nwA h2 2 3) (fun h7 => (decide (kdA h7 36 = 6)) = true ∧ Safe d m_Re_read (137, [.ref 36, unV, unV, .int (kI (i : Nat))], [], stR h7 36 10 (szA h2 + 1)) Q)))
          · rw [if_pos rfl] at go'
            exact go'
          · have k2 : kdA (nwA h2 2 3) 36 = 6 := by rw [kd_nw, if_neg (by rw [f2.2.2.2.1]; have := F.2.2.2; omega), f2.1]; exact kd_36 F
            refine ⟨by rw [k2]; rfl, by rw [k2]; rfl, by simp, ?_⟩
            exact X_lawEnd (lw := 1) (by omega) S a1 f2 hz (by omega) er i58 i40 P (by omega) (fun h4 k4 P4 => ⟨by rw [k4]; rfl, after _ P4⟩)
        · rw [if_pos (e207.mpr q7)]
          refine ⟨rfl, rfl, rfl, rfl, rfl, rfl, rfl, rfl, GV.use (Re_line_g (cs := cs) S.L S.G S.X.gw ⟨q6, q7⟩) (by omega) (fun h1 e1 => ?_)⟩
          refine after h1 ?_
          cases hr : linF tp n a g cs with
          | error x =>
            rw [hr] at e1
            exact S.bad e1.1 e1.2
          | ok p =>
            rw [hr] at e1
            have sm := lin_same S.X.gw ⟨q6, q7⟩ hr
            have lo := lin_ok a1 S.X.gw S.le hr
            have gx := (lin_gx S.X hr).mono (a' := p.1) (by omega)
            obtain ⟨f1, L1, G1⟩ := e1
            rw [sm.2] at gx
            show RQ tp n h0 p.1 p.2.1 p.2.2 h1
            rw [sm.2]
            exact S.lx f1 L1 G1 gx (by omega) sm.1
