/-! a text read as a whole -/
theorem hd0_ok {tp : Nat → Nat} {n : Nat} {q : Nat × LG × List Nat} (e : hd0F tp n = .ok q) : (∀ i, 4 ≤ i → i ≤ 9 → q.2.1 i = 0) ∧ q.2.2 = [] ∧ GX q.2.1 q.2.2 q.1 ∧ q.1 ≤ n := by
  unfold hd0F at e
  by_cases z : tKd tp n (tAt tp n 0) = 0
  · rw [if_pos z] at e
    have nb := nxA_b (tp := tp) (kd_n (tp := tp) (n := n) (a := tAt tp n 0) (by omega))
    have gx := hd_gx nb.2 e
    unfold hdF at e
    cases ht : tkF tp n 1 12 (nxA tp n (tAt tp n 0)) with
    | error x => rw [ht] at e; cases e
    | ok p =>
      rw [ht] at e
      dsimp only at e
      cases hu : tkF tp n 1 (12 / p.2) p.1 with
      | error x => rw [hu] at e; cases e
      | ok r =>
        rw [hu] at e
        dsimp only at e
        unfold endF at e
        by_cases w : tKd tp n r.1 = 30
        · rw [if_pos w] at e
          injection e with e
          subst e
          refine ⟨fun i i1 i2 => ?_, rfl, gx.1, gx.2.1⟩
          show upG (upG (upG g0F 1 (p.2 : Nat)) 2 (r.2 : Nat)) 0 _ i = 0
          rw [upG_ne (by omega), upG_ne (by omega), upG_ne (by omega)]
          unfold g0F
          rw [if_neg (by omega), if_neg (by omega), if_neg (by omega)]
        · rw [if_neg w] at e; cases e
  · rw [if_neg z] at e; cases e
def RdZ (h : AH) : Prop := ∃ k : Nat, k ≤ 900 ∧ ivA h 36 3 = kI k
def RdDone (tp : Nat → Nat) (n : Nat) (h : AH) (q : Nat × LG × List Nat) (p' : Nat) (h' : AH) : Prop := ∃ h1, RQ tp n h q.1 q.2.1 q.2.2 h1 ∧ p' = szA h1 + 1 ∧ ShN p' (q.2.1 1).toNat (q.2.1 2).toNat (q.2.1 3) (q.2.1 0) 40 (rvA h1 36 9) (rvA h1 36 10) (usN (gLw q.2.1 q.2.2 0) (gLw q.2.1 q.2.2 0).length) (nwA h1 8 14) h'
theorem lx_to {h h' : AH} (e : FTo h h') : FN A0 h h' := e.fn (fun x k z => by unfold A0; omega) (fun _ _ z => z.elim)
theorem XR.f0 {tp : Nat → Nat} {n : Nat} {h h' : AH} (R : XR tp n h) (e : FN A0 h h') (F' : Fix h') : XR tp n h' := ⟨F', R.O.fn e (fun x w => by unfold A0 at w; omega), R.le, fun k hk => by rw [e.iv 2 (oldF R.F (by omega)) (by unfold A0; omega)]; exact R.v k hk, R.b⟩
set_option maxHeartbeats 1000000 in
theorem Re_read_go {tp : Nat → Nat} {n d : Nat} {h : AH} {Q : Option Value → AH → Prop} (R : XR tp n h) (Z : RdZ h) (hz : szA h + 3 * n < 980000) (hd : 18 ≤ d) (H : ∀ h', RQo tp n h (shtF tp n) h' → Safe d m_Re_read (159, [.ref 36, unV, unV, unV], [], h') Q) : Safe d m_Re_read (0, [.ref 36, .ref 2, .int (kI n), unV], [], h) Q := by
  have F := R.F
  have n9 := R.le
  refine s_Re_read_0 ?_
  rw [kd_36 F]
  refine ⟨rfl, GV.use (Re_forget_g F) (by omega) (fun h1 w1 => ?_)⟩
  have R1 := R.f0 w1.N w1.F
  rw [rv_36_0 w1.F, kd_36 w1.F, kd_37 w1.F]
  refine ⟨rfl, rfl, GV.use (To_open_g R1) (by omega) (fun h2 w2 => ?_)⟩
  obtain ⟨e2, K2⟩ := w2
  have R2 := R1.fr e2 (fun x k z => by omega)
  have i36 : ∀ x k, x = 36 ∨ 40 ≤ x → ivA h2 x k = ivA h1 x k := fun x k hx => e2.2.2.2.2.2.1 x k (by omega)
  have L2 : RdL tp n (tAt tp n 0) h2 := by
    refine ⟨R2, K2, (tAt_b (by omega)).2, by rw [i36 _ _ (by omega)]; exact w1.f, by rw [i36 _ _ (by omega)]; exact w1.p, ?_⟩
    obtain ⟨k, k9, ek⟩ := Z
    exact ⟨k, k9, by rw [i36 _ _ (by omega), w1.z]; exact ek⟩
  obtain ⟨v, X1⟩ := w1.st
  have X2 : XP (gY g0F) v 42 h2 := X1.fr e2 (fun k => by omega)
  rw [kd_36 R2.F]
  refine ⟨rfl, GV.use (Re_head_g L2 (by rw [i36 _ _ (by omega)]; exact w1.hh) (fun k hk => by rw [i36 _ _ (by omega)]; exact w1.kd k hk) ⟨v, X2⟩) (by omega) (fun h3 w3 => ?_)⟩
  have N3 : FN A0 h h3 := (w1.N.trans (lx_to e2)).trans (lx_fn w3.1)
  have sz3 : szA h3 = szA h := by rw [w3.1.2.2.2.1, e2.2.2.2.1]; exact w1.sz
  have us3 : usA h3 = usA h := by rw [w3.1.2.2.2.2.1, e2.2.2.2.2.1]; exact w1.us
  have rv3 : ∀ k, rvA h3 36 k = rvA h1 36 k := fun k => by rw [w3.1.2.2.1, e2.2.2.1]
  rw [sht_hd] at H
  cases hr : hd0F tp n with
  | error e =>
    rw [hr] at w3 H
    have B : RQb tp n h e h3 := ⟨w3.2, N3, by omega, by omega⟩
    exact X_read_19b B (H h3 B)
  | ok q =>
    rw [hr] at w3 H
    obtain ⟨s4, cs0, gx, qn⟩ := hd0_ok hr
    obtain ⟨e3, L3, G3⟩ := w3
    have H' : ∀ h', RQo tp n h (lnsF tp n (n + 1) q.1 q.2.1 q.2.2) h' → Safe d m_Re_read (159, [.ref 36, unV, unV, unV], [], h') Q := H
    refine X_read_loop n9 hz hd (n + 1) q.1 q.2.1 q.2.2 h3 0 (by omega) ?_ (by omega) H'
    refine ⟨L3, G3, gx, by rw [cs0]; show 0 ≤ q.1; omega, N3, ⟨fun _ => by rw [rv3]; exact w1.r9, fun z => ?_⟩, ⟨fun _ => by rw [rv3]; exact w1.r10, fun z => ?_⟩, fun z _ => ?_, by omega, by omega⟩
    · rw [s4 _ (by omega) (by omega)] at z; omega
    · rw [s4 _ (by omega) (by omega)] at z; omega
    · rw [s4 _ (by omega) (by omega)] at z; omega
theorem Re_read_er {tp : Nat → Nat} {n : Nat} {h : AH} {e : Nat × Nat} (R : XR tp n h) (Z : RdZ h) (hz : szA h + 3 * n < 980000) (er : shtF tp n = .error e) : GR 19 m_Re_read [.ref 36, .ref 2, .int (kI n)] h 0 (RQb tp n h e) := by
  refine GRo (Re_read_go R Z hz (by omega) (fun h1 P => ?_))
  rw [er] at P
  have B : RQb tp n h e h1 := P
  refine s_Re_read_159 ?_
  rw [kd_36 B.B.R.F, if_pos B.B.nz.1]
  exact ⟨rfl, rfl, B⟩
theorem Re_read_ok {tp : Nat → Nat} {n : Nat} {h : AH} {q : Nat × LG × List Nat} (R : XR tp n h) (Z : RdZ h) (hz : szA h + 3 * n < 980000) (er : shtF tp n = .ok q) {d : Nat} (hd : 19 ≤ d) {K : Nat → AH → Prop} (H : ∀ p' h', p' ≠ 0 → RdDone tp n h q p' h' → K p' h') : CallR d m_Re_read [.ref 36, .ref 2, .int (kI n)] h K := by
  suffices G : ∃ p', GR 19 m_Re_read [.ref 36, .ref 2, .int (kI n)] h p' (fun h' => p' ≠ 0 ∧ RdDone tp n h q p' h') by
    obtain ⟨p', G⟩ := G
    exact GR.use G hd (fun h' w => H p' h' w.1 w.2)
  obtain ⟨v, k, hr, p', e1, e2⟩ : ∃ v k, Ret 19 m_Re_read [.ref 36, .ref 2, .int (kI n)] h v k ∧ ∃ p', v = some (.ref p') ∧ p' ≠ 0 ∧ RdDone tp n h q p' k := by
    refine call_iff.mpr (Re_read_go R Z hz (by omega) (fun h1 P => ?_))
    rw [er] at P
    have S : RQ tp n h q.1 q.2.1 q.2.2 h1 := P
    have F1' := S.L.R.F
    have s105 := F1'.2.2.2
    have n9 := R.le
    have qn := S.L.an
    have ssz := S.sz
    refine s_Re_read_159 ?_
    have kd1 : kdA (nwA h1 8 14) 36 = 6 := by rw [kd_nw, if_neg (by omega)]; exact kd_36 F1'
    have iv1 : ∀ k, ivA (nwA h1 8 14) 36 k = ivA h1 36 k := fun k => by rw [iv_nw, if_neg (by omega)]
    have rv1 : ∀ k, rvA (nwA h1 8 14) 36 k = rvA h1 36 k := fun k => by rw [rv_nw, if_neg (by omega)]
    obtain ⟨Rr, W, Hn, D, l, Ln, g1, g2, g3, g4, g5, g6, r1, w1, rw12, hh, hD, hl, hL⟩ := S.X.q
    have eR : (q.2.1 1).toNat = Rr := by rw [g1, Int.toNat_natCast]
    have eW : (q.2.1 2).toNat = W := by rw [g2, Int.toNat_natCast]
    rw [kd_36 F1', if_neg S.L.nz, kd1, iv1, iv1, iv1, iv1, rv1, rv1, rv1, S.G.r, S.G.w, S.G.hh, S.G.ln, rv_36_1 F1', g1, g2]
    refine ⟨rfl, rfl, rfl, rfl, rfl, rfl, rfl, rfl, by simp, ?_⟩
    have kp : kdA (nwA h1 8 14) (szA h1 + 1) = 8 := by rw [kd_nw, if_pos rfl]
    have sN1 : szA (nwA h1 8 14) = szA h1 + 1 := rfl
    have u8 := usN_lt (gLw q.2.1 q.2.2 0) (gLw q.2.1 q.2.2 0).length
    have u256 : (2 : Nat) ^ 8 = 256 := rfl
    refine GV.use (Sh_new_g (p := szA h1 + 1) (R := Rr) (W := W) (L3 := 12) (r3 := 40) (r6 := rvA h1 36 9) (r7 := rvA h1 36 10) (u := usN (gLw q.2.1 q.2.2 0) (gLw q.2.1 q.2.2 0).length) kp (by omega) (by omega) (by omega) r1 w1 rw12 (by rw [kd_nw, if_neg (by omega)]; exact kd_40 F1') (by rw [ln_nw, if_neg (by omega)]; exact ln_40 F1') rw12 (by omega) (by omega) (by omega) ?_ (by omega)) (by omega) (fun h2 w2 => ?_)
    · have m := S.m
      rcases S.X.m with z | ⟨z, _⟩
      · left
        refine ⟨m.1 z, ?_⟩
        have : gLw q.2.1 q.2.2 0 = [] := by unfold gLw; rw [if_neg (by rw [z]; omega)]
        rw [this]
        rfl
      · right
        have X := (m.2 z).2
        have b := X.b
        have e9 : rvA h1 36 (9 + 0) = rvA h1 36 9 := rfl
        rw [e9] at X b
        refine ⟨by omega, by omega, by omega, by rw [kd_nw, if_neg (by omega)]; exact X.k, by rw [iv_nw, if_neg (by omega)]; exact X.us⟩
    · exact ⟨szA h1 + 1, rfl, Nat.succ_ne_zero _, h1, S, rfl, by rw [eR, eW]; exact w2⟩
  exact ⟨p', k, by rw [← e1]; exact hr, e2⟩
