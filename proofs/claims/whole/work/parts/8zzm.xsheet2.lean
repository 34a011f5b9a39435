/-! tags anew; the class's sheet -/
theorem XL.tg {T T' : Nat → Nat} {code : List Nat} {q : Nat} {h : AH} (X : XL T code q h) (t : ∀ x, x ≤ szA h → T' x = T x) : XL T' code q h := ⟨X.k, X.kc, X.lc, X.ks, X.ls, X.cd, by rw [t _ X.b0]; exact X.g0, by rw [t _ X.b1]; exact X.g1, by rw [t _ X.bq.2]; exact X.gq, X.bq, X.b0, X.b1, X.len⟩
theorem XS.tg {T T' : Nat → Nat} {s : ST} {p : Nat} {h : AH} (X : XS T s p h) (t : ∀ x, x ≤ szA h → T' x = T x) : XS T' s p h := ⟨X.wf, X.k, X.i0, X.i1, X.i2, X.i3, X.i4, X.i5, X.i6, X.i7, X.i8, X.k9, X.l9, X.c9, X.k10, X.l10, X.c10, X.m0, fun q => ⟨(X.m1 q).1.tg t, (X.m1 q).2⟩, X.o0, fun q => ⟨(X.o1 q).1.tg t, (X.o1 q).2⟩, X.k13, X.l13, by rw [t _ X.bp.2]; exact X.gp, by rw [t _ X.b9]; exact X.g9, by rw [t _ X.b10]; exact X.g10, by rw [t _ X.b13]; exact X.g13, X.bp, X.b9, X.b10, X.b13⟩
theorem PA.tg {T T' : Nat → Nat} {R R' : Nat → ST} {i : Nat} {h : AH} (P : PA T R i h) (t : ∀ x, x ≤ szA h → T' x = T x) (r : ∀ x, x ≤ szA h → R' x = R x) : PA T' R' i h := by
  obtain ⟨i0, lo, hb, b1, b2, i2, H⟩ := P
  refine ⟨i0, lo, hb, b1, b2, i2, fun z => ?_⟩
  obtain ⟨ask, hol, P⟩ := H z
  refine ⟨ask, hol, ?_⟩
  rw [r _ P.S.bp.2]
  exact ⟨P.S.tg t, P.i0, P.i2, P.r, P.ja, P.jh, P.v⟩
theorem PArr.tg {T T' : Nat → Nat} {x kd n : Nat} {h : AH} (P : PArr T x kd n h) (t : ∀ x, x ≤ szA h → T' x = T x) : PArr T' x kd n h := ⟨P.1, by rw [t _ P.2.2.1]; exact P.2.1, P.2.2⟩
theorem PAs.tg {T T' : Nat → Nat} {h : AH} (P : PAs T h) (t : ∀ x, x ≤ szA h → T' x = T x) : PAs T' h := ⟨P.a.tg t, P.m.tg t, P.v.tg t, P.ne, P.l⟩
/-- what is remembered, with another sheet, over a frame that leaves it alone -/
theorem PI.new {T T' : Nat → Nat} {R R' : Nat → ST} {s s' : ST} {p p' : Nat} {y y' : DY} {v v' : Int} {A : Nat → Prop} {h h' : AH} (I : PI T R s p y v h) (F : Fix h) (t : TF T) (e : FN A h h') (n0 : ∀ x, A x → x ≤ 105 ∧ (x < 3 ∨ 7 < x) ∧ (x < 45 ∨ 66 < x)) (tg : ∀ x, x ≤ szA h → T' x = T x) (rg : ∀ x, x ≤ szA h → R' x = R x) (td : TD T' h') (rp : R' p' = s') (hp : p' < 1000000) (hv : v < v') : PI T' R' s' p' y' v' h' ∧ PhP h' = PhP h := by
  have s105 := F.2.2.2
  have no : ∀ x, 45 ≤ x → x ≤ 66 → ¬ A x := fun x h1 h2 w => by have := n0 x w; omega
  have tw : ∀ x, A x → T' x ≠ 0 := fun x w => by
    have a := n0 x w
    rw [tg x (by omega), t.two a.1 (by omega)]
    omega
  have i57 := e.iv 57 (oldF F (by omega)) (no 57 (by omega) (by omega))
  have r57 := e.rv 57 (oldF F (by omega)) (no 57 (by omega) (by omega))
  have i65 := e.iv 65 (oldF F (by omega)) (no 65 (by omega) (by omega))
  have kl : ∀ x, old h x → kdA h' x = kdA h x ∧ lnA h' x = lnA h x := fun x o => e.kl x o
  have z := e.sz
  obtain ⟨pv, c1, c2, c3, _⟩ := I.pc
  obtain ⟨cv, d1, d2, d3, _⟩ := I.cc
  refine ⟨⟨fun i hi => ((I.pm i hi).tg tg rg).fn F hi e tw (no _ (by omega) (by omega)) (no _ (by omega) (by omega)) (no _ (by omega) (by omega)), rp, hp, (I.X.tg tg).of (fun k _ _ => r57 k) kl z, td, ⟨pv, by rw [i57]; exact c1, c2, by omega, fun q => by omega⟩, ⟨cv, by rw [i65]; exact d1, d2, by omega, fun q => by omega⟩⟩, PhP_of I.X (fun k _ _ => r57 k) kl⟩
def tgN (T : Nat → Nat) (p qm qo : Nat) (x : Nat) : Nat := if x = p ∨ x = p + 2 ∨ x = p + 3 ∨ (105 < qm ∧ (x = qm ∨ x = qm + 2)) ∨ (105 < qo ∧ (x = qo ∨ x = qo + 2)) then 0 else if x = p + 1 ∨ (105 < qm ∧ x = qm + 1) ∨ (105 < qo ∧ x = qo + 1) then 1 else T x
theorem XLq.xl {T : Nat → Nat} {code : List Nat} {q : Nat} {h : AH} (X : XLq code q h) (g0 : T q = 0) (g2 : T (q + 2) = 0) (g1 : T (q + 1) = 1) : XL T code q h := by
  have b := X.b
  unfold XL
  rw [X.r0, X.r1]
  exact ⟨X.k, X.k2.1, X.k2.2, X.k1.1, X.k1.2, X.cd, g2, g1, g0, ⟨by omega, by omega⟩, by omega, by omega, X.le⟩
theorem us_uses {s : ST} {w : Nat} (hw : w < 8) : (usN (sM s) (sM s).length).testBit w = usesF s w := by
  have b := usN_bit (sM s) w (sM s).length
  have c : usesF s w = true ↔ ∃ j : Nat, j < (sM s).length ∧ (sM s).getD j 0 = 1000 + w := by
    unfold usesF
    rw [List.contains_iff_mem, List.mem_iff_getElem]
    constructor
    · rintro ⟨j, hj, e⟩
      exact ⟨j, hj, by rw [List.getD_eq_getElem?_getD, List.getElem?_eq_getElem hj]; exact e⟩
    · rintro ⟨j, hj, e⟩
      rw [List.getD_eq_getElem?_getD, List.getElem?_eq_getElem hj] at e
      exact ⟨j, hj, e⟩
  rw [Bool.eq_iff_iff, b, c]
  exact ⟨fun z => z.2, fun z => ⟨hw, z⟩⟩
set_option maxHeartbeats 1000000 in
/-- the sheet that was read lies there -/
theorem RdDone.xs {tp : Nat → Nat} {n p' : Nat} {h h' : AH} {q : Nat × LG × List Nat} (D : RdDone tp n h q p' h') (F : Fix h) (T : Nat → Nat) (hz : szA h + 3 * n < 980000) (n9 : n ≤ 900) : XS (tgN T p' (rvA h' 36 9) (rvA h' 36 10)) (gS q.2.1 q.2.2) p' h' ∧ FN A0 h h' ∧ szA h < p' ∧ szA h' = p' + 3 ∧ p' ≤ szA h + 3 * n + 1 ∧ usA h' ≤ usA h + 68 * n + 100 ∧ (105 < rvA h' 36 9 → szA h < rvA h' 36 9 ∧ rvA h' 36 9 + 2 < p') ∧ (105 < rvA h' 36 10 → szA h < rvA h' 36 10 ∧ rvA h' 36 10 + 2 < p') ∧ Fix h' ∧ OX h' ∧ RdZ h' ∧ ivA h' 36 11 = kI 0 ∧ ivA h' 36 12 = kI (-1) ∧ ∃ v, XP (gY q.2.1) v 42 h' := by
  obtain ⟨h1, S, ep, N⟩ := D
  have F1' := S.L.R.F
  have s1 := F1'.2.2.2
  have s0 := F.2.2.2
  have qn := S.L.an
  have ssz := S.sz
  have sus := S.us
  have szN := S.N.sz
  have sNw : szA (nwA h1 8 14) = szA h1 + 1 := rfl
  have e1 : FN (fun _ => False) h1 (nwA h1 8 14) := FN_nw (by omega) 8 14
  have e2 : FN (fun _ => False) h1 h' := FN.less (A := fun x => x = p') ((e1.mono (fun x w => w.elim)).trans N.e) (fun x o w => by unfold old at o; omega)
  have i105 : ∀ x k, x ≤ 105 → ivA h' x k = ivA h1 x k := fun x k hx => e2.iv x (oldF F1' hx) (fun w => w) k
  have r105 : ∀ x k, x ≤ 105 → rvA h' x k = rvA h1 x k := fun x k hx => e2.rv x (oldF F1' hx) (fun w => w) k
  have L' := S.L.f9 e2 (fun x w => w.elim)
  have G' := S.G.f9 F1' e2 (fun x w => w.elim)
  have wf := S.X.wf (by omega : q.1 ≤ 2000)
  obtain ⟨R, W, Hn, D, l, Ln, g1, g2, g3, g4, g5, g6, r1, w1, rw12, hh, hD, hl, hL⟩ := S.X.q
  have eR : (q.2.1 1).toNat = R := by rw [g1, Int.toNat_natCast]
  have eW : (q.2.1 2).toNat = W := by rw [g2, Int.toNat_natCast]
  rw [eR, eW] at N
  have esN : sN (gS q.2.1 q.2.2) = R * W := by show (q.2.1 1).toNat * (q.2.1 2).toNat = _; rw [eR, eW]
  obtain ⟨qm, hqm⟩ : ∃ x, x = rvA h' 36 9 := ⟨_, rfl⟩
  obtain ⟨qo, hqo⟩ : ∃ x, x = rvA h' 36 10 := ⟨_, rfl⟩
  have qm1 : rvA h1 36 9 = qm := by rw [hqm, r105 _ _ (by omega)]
  have qo1 : rvA h1 36 10 = qo := by rw [hqo, r105 _ _ (by omega)]
  rw [← hqm, ← hqo]
  rw [qm1, qo1] at N
  have dj := S.d
  rw [qm1, qo1] at dj
  have lawc : ∀ k b, k ≤ 1 → GLw q.2.1 q.2.2 k b → LwX q.2.1 q.2.2 k h h1 → (gLw q.2.1 q.2.2 k = [] ∧ rvA h1 36 (9 + k) = 0) ∨ (q.2.1 (4 + k) = 1 ∧ szA h < rvA h1 36 (9 + k) ∧ XLq (gLw q.2.1 q.2.2 k) (rvA h1 36 (9 + k)) h' ∧ rvA h1 36 (9 + k) + 2 ≤ szA h1) := fun k b _ Y X => by
    rcases Y with z | ⟨z, _⟩
    · left
      exact ⟨by unfold gLw; rw [if_neg (by rw [z]; omega)], X.1 z⟩
    · right
      have x := X.2 z
      exact ⟨z, x.1, x.2.fn e2 (fun _ _ _ w => w), x.2.b.2⟩
  have mc := lawc 0 true (by omega) S.X.m S.m
  have oc := lawc 1 false (by omega) S.X.o S.o
  rw [show 9 + 0 = 9 from rfl, qm1] at mc
  rw [show 9 + 1 = 10 from rfl, qo1] at oc
  have bm : 105 < qm → szA h < qm ∧ qm + 2 < p' := fun z => by
    rcases mc with ⟨_, w⟩ | ⟨_, w1, _, w2⟩ <;> omega
  have bo : 105 < qo → szA h < qo ∧ qo + 2 < p' := fun z => by
    rcases oc with ⟨_, w⟩ | ⟨_, w1, _, w2⟩ <;> omega
  have dj' : 105 < qm → 105 < qo → qm + 3 ≤ qo ∨ qo + 3 ≤ qm := fun z1 z2 => by
    rcases mc with ⟨_, w⟩ | ⟨w1, _⟩
    · omega
    · rcases oc with ⟨_, u⟩ | ⟨u1, _⟩
      · omega
      · exact dj w1 u1
  have r9 : rvA h' p' 9 = p' + 2 := by rw [N.r9, sNw, ep]
  have r10 : rvA h' p' 10 = p' + 3 := by rw [N.r10, sNw, ep]
  have r13 : rvA h' p' 13 = p' + 1 := by rw [N.r13, sNw, ep]
  have zp : ∀ x, x = p' ∨ x = p' + 2 ∨ x = p' + 3 ∨ (105 < qm ∧ (x = qm ∨ x = qm + 2)) ∨ (105 < qo ∧ (x = qo ∨ x = qo + 2)) → tgN T p' qm qo x = 0 := fun x hx => by unfold tgN; rw [if_pos hx]
  have op : ∀ x, x = p' + 1 ∨ (105 < qm ∧ x = qm + 1) ∨ (105 < qo ∧ x = qo + 1) → tgN T p' qm qo x = 1 := fun x hx => by
    unfold tgN
    rw [if_neg (by
      intro z
      rcases hx with hx | ⟨hx1, hx⟩ | ⟨hx1, hx⟩
      · rcases z with z | z | z | ⟨z1, z⟩ | ⟨z1, z⟩
        · omega
        · omega
        · omega
        · have := bm z1; omega
        · have := bo z1; omega
      · have := bm hx1
        rcases z with z | z | z | ⟨z1, z⟩ | ⟨z1, z⟩
        · omega
        · omega
        · omega
        · omega
        · have := dj' hx1 z1; omega
      · have := bo hx1
        rcases z with z | z | z | ⟨z1, z⟩ | ⟨z1, z⟩
        · omega
        · omega
        · omega
        · have := dj' z1 hx1; omega
        · omega), if_pos hx]
  have kp : kdA h' p' = 8 := by rw [(N.e.kl p' (Or.inl (by omega))).1, kd_nw, if_pos ep]
  have szh : szA h' = p' + 3 := by rw [N.sz, sNw, ep]
  have eH : sH (gS q.2.1 q.2.2) = Hn := by show (q.2.1 3).toNat = Hn; rw [g3, Int.toNat_natCast]
  have eL : sL (gS q.2.1 q.2.2) = Ln := by show (q.2.1 0).toNat = Ln; rw [g6, Int.toNat_natCast]
  have us : ∀ w, w < 8 → (usN (gLw q.2.1 q.2.2 0) (gLw q.2.1 q.2.2 0).length).testBit w = usesF (gS q.2.1 q.2.2) w := fun w hw => us_uses (s := gS q.2.1 q.2.2) hw
  have i6 := N.i6
  have i7 := N.i7
  have i8 := N.i8
  rw [us 2 (by omega)] at i6
  rw [us 3 (by omega)] at i7
  rw [us 6 (by omega), us 7 (by omega)] at i8
  have k9 := N.k9
  have k10 := N.k10
  have k13 := N.k13
  have c9 := N.c9
  have c10 := N.c10
  rw [sNw, ← ep] at k9 k10 k13 c9 c10
  have x40 : ∀ k, ivA (nwA h1 8 14) 40 k = ivA h1 40 k := fun k => by rw [iv_nw, if_neg (by omega)]
  refine ⟨?_, S.N.trans (e2.mono (fun x w => w.elim)), by omega, szh, by omega, ?_, bm, bo, L'.R.F, L'.R.O, L'.z, L'.f, L'.p, G'.st⟩
  · unfold XS
    rw [r9, r10, N.r11, N.r12, r13, esN, eH, eL]
    refine ⟨wf.1, kp, ?_, ?_, N.i2, N.i3, ?_, ?_, i6, i7, i8, k9.1, k9.2, fun k hk => ?_, k10.1, k10.2, fun k hk => ?_, fun z => ?_, fun z => ?_, fun z => ?_, fun z => ?_, k13.1, k13.2, zp _ (Or.inl rfl), zp _ (Or.inr (Or.inl rfl)), zp _ (Or.inr (Or.inr (Or.inl rfl))), op _ (Or.inl rfl), ⟨by omega, by omega⟩, by omega, by omega, by omega⟩
    · rw [N.i0]; show _ = kI ((q.2.1 1).toNat : Nat); rw [eR]
    · rw [N.i1]; show _ = kI ((q.2.1 2).toNat : Nat); rw [eW]
    · rw [N.i4, g3]
    · rw [N.i5, g6]
    · rw [c9 k hk, x40, S.G.kd k (by omega)]
      show _ = kI ((if k < 12 then (q.2.1 (10 + k)).toNat else 0 : Nat) : Int)
      have := S.X.k k (by omega)
      rw [if_pos (by omega), Int.toNat_of_nonneg this.1]
    · rw [c10 k hk, nbF_W, esN]
      show _ = kI (nbW (q.2.1 2).toNat (R * W) k : Nat)
      rw [eW]
    · rcases mc with ⟨_, w⟩ | ⟨w1, w2, w3, w4⟩
      · exact w
      · exfalso
        have := (S.X.m.wfc).2.2.1 z
        rw [this] at w1
        omega
    · rcases mc with ⟨w, _⟩ | ⟨w1, w2, w3, w4⟩
      · exact absurd w z
      · refine ⟨w3.xl (zp _ (Or.inr (Or.inr (Or.inr (Or.inl ⟨by omega, Or.inl rfl⟩))))) (zp _ (Or.inr (Or.inr (Or.inr (Or.inl ⟨by omega, Or.inr rfl⟩))))) (op _ (Or.inr (Or.inl ⟨by omega, rfl⟩))), ?_⟩
        rw [w3.r1]
        omega
    · rcases oc with ⟨_, w⟩ | ⟨w1, w2, w3, w4⟩
      · exact w
      · exfalso
        have := (S.X.o.wfc).2.2.1 z
        rw [this] at w1
        omega
    · rcases oc with ⟨w, _⟩ | ⟨w1, w2, w3, w4⟩
      · exact absurd w z
      · refine ⟨w3.xl (zp _ (Or.inr (Or.inr (Or.inr (Or.inr ⟨by omega, Or.inl rfl⟩))))) (zp _ (Or.inr (Or.inr (Or.inr (Or.inr ⟨by omega, Or.inr rfl⟩))))) (op _ (Or.inr (Or.inr ⟨by omega, rfl⟩))), ?_⟩
        rw [w3.r1]
        omega
  · rw [N.us]
    show usA h1 + 14 + 8 + 2 * (R * W) ≤ _
    omega
def fltF (r : LR) : Int := match r with
  | .ok _ => 0
  | .error e => (e.1 : Int)
def plcF (r : LR) : Int := match r with
  | .ok _ => -1
  | .error e => (e.2 : Int)
/-- behind sheet: the fault's fields, the tape's end, the room -/
def ShX (n : Nat) (r : LR) (h : AH) (h' : AH) : Prop := (FN (fun x => A0 x ∨ x = 1 ∨ x = 8 ∨ x = 9 ∨ x = 14) h h') ∧ (Fix h') ∧ (RdZ h') ∧ (ivA h' 1 1 = kI 0) ∧ (ivA h' 36 11 = kI (fltF r)) ∧ (ivA h' 36 12 = kI (plcF r)) ∧ (usA h' ≤ usA h + 68 * n + 1000) ∧ (szA h' ≤ szA h + 3 * n + 4) ∧ (PhP h' = PhP h)
theorem ShX.N {n : Nat} {r : LR} {h : AH} {h' : AH} (C : ShX n r h h') : FN (fun x => A0 x ∨ x = 1 ∨ x = 8 ∨ x = 9 ∨ x = 14) h h' := C.1
theorem ShX.F {n : Nat} {r : LR} {h : AH} {h' : AH} (C : ShX n r h h') : Fix h' := C.2.1
theorem ShX.Z {n : Nat} {r : LR} {h : AH} {h' : AH} (C : ShX n r h h') : RdZ h' := C.2.2.1
theorem ShX.tp {n : Nat} {r : LR} {h : AH} {h' : AH} (C : ShX n r h h') : ivA h' 1 1 = kI 0 := C.2.2.2.1
theorem ShX.f {n : Nat} {r : LR} {h : AH} {h' : AH} (C : ShX n r h h') : ivA h' 36 11 = kI (fltF r) := C.2.2.2.2.1
theorem ShX.p {n : Nat} {r : LR} {h : AH} {h' : AH} (C : ShX n r h h') : ivA h' 36 12 = kI (plcF r) := C.2.2.2.2.2.1
theorem ShX.us {n : Nat} {r : LR} {h : AH} {h' : AH} (C : ShX n r h h') : usA h' ≤ usA h + 68 * n + 1000 := C.2.2.2.2.2.2.1
theorem ShX.sz {n : Nat} {r : LR} {h : AH} {h' : AH} (C : ShX n r h h') : szA h' ≤ szA h + 3 * n + 4 := C.2.2.2.2.2.2.2.1
theorem ShX.ph {n : Nat} {r : LR} {h : AH} {h' : AH} (C : ShX n r h h') : PhP h' = PhP h := C.2.2.2.2.2.2.2.2
def ASh (x : Nat) : Prop := A0 x ∨ x = 1 ∨ x = 8 ∨ x = 9 ∨ x = 14
theorem X_sheet_er {T : Nat → Nat} {R : Nat → ST} {s : ST} {p : Nat} {y : DY} {v : Int} {hs : List DY} {nx : Nat} {tp : Nat → Nat} {n nt : Nat} {h : AH} {e : Nat × Nat} (X : XI T R s p y v hs nx h) (O : OX h) (t : TX tp nt h) (hn : n ≤ nt) (tb : ∀ k, k < n → tp k < 256) (Z : RdZ h) (hz : szA h < 890000) (er : shtF tp n = .error e) : GI 20 m_X_sheet [.ref 1, .int (kI n)] h (kI (shtA (shtF tp n))) (fun h' => ShX n (shtF tp n) h h' ∧ XI T R s p y v hs nx h') := by
  have F := X.B.F
  have n9 := t.le
  have XRh : XR tp n h := ⟨F, O, by omega, fun k hk => t.v k (by omega), tb⟩
  refine GIo (s_X_sheet_0 ?_)
  rw [z0, if_neg (by rw [decide_eq_true_eq, kI_lt (by omega) (by omega) (by omega) (by omega)]; omega), t.i, if_pos (by rw [decide_eq_true_eq, kI_le (by omega) (by omega) (by omega) (by omega)]; omega), kd_1 F, rv_1_7 F, kd_36 F, rv_1_0 F]
  refine ⟨rfl, rfl, rfl, rfl, GR.use (Re_read_er XRh Z (by omega) er) (by omega) (fun h1 B => ?_)⟩
  have F1' := B.B.R.F
  have f2 : Fr (fun a k => a = 1 ∧ k = 1) JM h1 (stI h1 1 1 (kI 0)) := F1_st h1 1 1 (kI 0)
  have F2 := f2.fix F1'
  have r7 : rvA (stI h1 1 1 (kI 0)) 1 7 = 36 := rv_1_7 F2
  rw [if_neg (by decide), kd_1 F1', r7, kd_1 F2, kd_36 F2]
  have i11 : ivA (stI h1 1 1 (kI 0)) 36 11 = kI (e.1 : Nat) := by rw [iv_stI, if_neg (by omega)]; exact B.B.f
  rw [i11, er]
  have N2 : FN ASh h (stI h1 1 1 (kI 0)) := (B.N.mono (fun x w => Or.inl w)).trans (f2.fn (fun a k w => Or.inr (Or.inl w.1)) (fun _ _ w => w.elim))
  have tt : ∀ x, ASh x → PFre T x := fun x w => by
    unfold ASh A0 at w
    have := X.B.t.two (a := x) (by omega) (by omega)
    exact Or.inr ⟨by omega, by omega, by omega⟩
  have NN : FN (fun x => A0 x ∨ x = 1) h (stI h1 1 1 (kI 0)) := (B.N.mono (fun x w => Or.inl w)).trans (f2.fn (fun a k w => Or.inr w.1) (fun _ _ w => w.elim))
  have P := X.I.fn F X.B.t N2 F2 tt
  have rv1 : ∀ k, rvA (stI h1 1 1 (kI 0)) 1 k = rvA h 1 k := fun k => by
    show rvA h1 1 k = _
    exact B.N.rv 1 (oldF F (by omega)) (by unfold A0; omega) k
  have BX' : BX T s p y v hs nx (stI h1 1 1 (kI 0)) := by
    refine ⟨F2, X.B.t, by rw [rv1]; exact X.B.r, X.B.S.fn N2 (fun a w => PFre_T (tt a w)), X.B.P.fn F NN (by omega) (by unfold A0; omega) (by unfold A0; omega), X.B.H.fn F NN (fun a w => by unfold A0 at w; omega), X.B.wy, X.B.wh⟩
  have us := B.us
  have sz := B.sz
  refine ⟨rfl, rfl, rfl, by show Eqv _ _; rw [kI_sub]; rfl, ⟨N2, F2, ?_, by rw [iv_stI, if_pos ⟨rfl, rfl⟩], i11, by rw [iv_stI, if_neg (by omega)]; exact B.B.p, us, by show szA h1 ≤ _; omega, P.2⟩, BX', P.1, X.v0, X.v1, by show szA h1 < _; omega⟩
  obtain ⟨k, k9, ek⟩ := B.B.z
  exact ⟨k, k9, by rw [iv_stI, if_neg (by omega)]; exact ek⟩
set_option maxHeartbeats 1000000 in
theorem X_sheet_ok {T : Nat → Nat} {R : Nat → ST} {s : ST} {p : Nat} {y : DY} {v : Int} {hs : List DY} {nx : Nat} {tp : Nat → Nat} {n nt : Nat} {h : AH} {q : Nat × LG × List Nat} (X : XI T R s p y v hs nx h) (O : OX h) (t : TX tp nt h) (hn : n ≤ nt) (tb : ∀ k, k < n → tp k < 256) (Z : RdZ h) (hz : szA h < 890000) (v2 : v < 2000000000) (er : shtF tp n = .ok q) : GI 20 m_X_sheet [.ref 1, .int (kI n)] h (kI (shtA (shtF tp n))) (fun h' => ShX n (shtF tp n) h h' ∧ ∃ T' R' p', (∀ x, x ≤ szA h ∨ 1000000 ≤ x → T' x = T x) ∧ (∀ x, x ≤ szA h → R' x = R x) ∧ XI T' R' (gS q.2.1 q.2.2) p' (gY q.2.1) (v + 1) [] nx h') := by
  have F := X.B.F
  have n9 := t.le
  have XRh : XR tp n h := ⟨F, O, by omega, fun k hk => t.v k (by omega), tb⟩
  refine GIo (s_X_sheet_0 ?_)
  rw [z0, if_neg (by rw [decide_eq_true_eq, kI_lt (by omega) (by omega) (by omega) (by omega)]; omega), t.i, if_pos (by rw [decide_eq_true_eq, kI_le (by omega) (by omega) (by omega) (by omega)]; omega), kd_1 F, rv_1_7 F, kd_36 F, rv_1_0 F]
  refine ⟨rfl, rfl, rfl, rfl, Re_read_ok XRh Z (by omega) er (by omega) (fun p' h1 p0 D => ?_)⟩
  have gxn := sht_gx er
  have wf := gxn.1.wf (by omega)
  obtain ⟨S1, N1, b1, b2, b3, b4, b5, b6, F1', O1, Z1, f1, pl1, v42, X42⟩ := D.xs F T (by omega) (by omega)
  obtain ⟨T', hT'⟩ : ∃ T', T' = tgN T p' (rvA h1 36 9) (rvA h1 36 10) := ⟨_, rfl⟩
  rw [← hT'] at S1
  have told : ∀ x, x ≤ szA h ∨ szA h1 < x → T' x = T x := fun x hx => by
    rw [hT']
    unfold tgN
    rw [if_neg (by
      intro z
      rcases z with z | z | z | ⟨z1, z⟩ | ⟨z1, z⟩
      · omega
      · omega
      · omega
      · have := b5 z1; omega
      · have := b6 z1; omega), if_neg (by
      intro z
      rcases z with z | ⟨z1, z⟩ | ⟨z1, z⟩
      · omega
      · have := b5 z1; omega
      · have := b6 z1; omega)]
  have s0 := F.2.2.2
  have t' : TF T' := fun a ha => by rw [told a (by omega)]; exact X.B.t a ha
  have f2 : Fr (fun a k => a = 1 ∧ k = 1) JM h1 (stI h1 1 1 (kI 0)) := F1_st h1 1 1 (kI 0)
  obtain ⟨h3, h3e⟩ : ∃ h3, h3 = stR (stI h1 1 1 (kI 0)) 1 2 p' := ⟨_, rfl⟩
  have F3 : Fix h3 := by rw [h3e]; exact fix_stR (f2.fix F1') rvT_12
  have N3 : FN ASh h h3 := by
    rw [h3e]
    exact ((N1.mono (fun x w => Or.inl w)).trans (f2.fn (fun a k w => Or.inr (Or.inl w.1)) (fun _ _ w => w.elim))).trans (FN_stR (Or.inr (Or.inl rfl)))
  have i3 : ∀ x k, (x ≠ 1 ∨ k ≠ 1) → ivA h3 x k = ivA h1 x k := fun x k hx => by rw [h3e, iv_stR, iv_stI, if_neg (by omega)]
  have k1' : kdA (stI h1 1 1 (kI 0)) 1 = 11 := kd_1 F1'
  rw [if_pos (by rw [Bool.not_eq_true', decide_eq_false_iff_not]; exact p0), kd_1 F1', k1', ← h3e, rv_1_7 F3, kd_36 F3, rv_1_3 F3, kd_8 F3, rv_36_13 F3, kd_1 F3]
  refine ⟨rfl, rfl, rfl, rfl, rfl, rfl, ?_⟩
  have P3 : ivA h3 8 3 = kI v := by rw [i3 _ _ (by omega), N1.iv 8 (oldF F (by omega)) (by unfold A0; omega)]; exact X.B.P.i3
  have X3 : XP (gY q.2.1) v42 42 h3 := ⟨by rw [i3 _ _ (by omega)]; exact X42.i0, by rw [i3 _ _ (by omega)]; exact X42.i1, by rw [i3 _ _ (by omega)]; exact X42.i2, by rw [i3 _ _ (by omega)]; exact X42.i3, fun k hk => by rw [i3 _ _ (by omega)]; exact X42.b k hk⟩
  refine GV.use (Pg_copy_g F3 PG8 (pg' := 42) (by unfold PG; omega) (by omega) X3 P3) (by omega) (fun h4 e4 => ?_)
  obtain ⟨e4, X4⟩ := e4
  have F4 := e4.fix F3
  rw [kd_1 F4, rv_1_6 F4, kd_14 F4]
  refine ⟨rfl, rfl, GV.use (Hi_forget_g F4) (by omega) (fun h5 e5 => ?_)⟩
  rw [e5]
  have f5 : Fr (fun a k => a = 14 ∧ k = 2) JM h4 (stI h4 14 2 (kI 0)) := F1_st h4 14 2 (kI 0)
  have F5 := f5.fix F4
  have N4 : FN ASh h3 h4 := e4.fn (fun a k w => by unfold ASh; omega) (fun _ _ w => w.elim)
  have N5 : FN ASh h4 (stI h4 14 2 (kI 0)) := f5.fn (fun a k w => by unfold ASh; omega) (fun _ _ w => w.elim)
  have N05 := N3.trans (N4.trans N5)
  have r12 : rvA (stI h4 14 2 (kI 0)) 1 2 = p' := by
    show rvA h4 1 2 = _
    rw [e4.2.2.1, h3e, rv_stR, if_pos ⟨rfl, rfl⟩]
  have n15 : FN (fun x => x = 1 ∨ x = 8 ∨ x = 9 ∨ x = 14) h1 (stI h4 14 2 (kI 0)) := by
    refine FN.trans (h1 := h3) ?_ (FN.trans (e4.fn (fun a k w => by omega) (fun _ _ w => w.elim)) (f5.fn (fun a k w => by omega) (fun _ _ w => w.elim)))
    rw [h3e]
    exact (f2.fn (fun a k w => Or.inl w.1) (fun _ _ w => w.elim)).trans (FN_stR (Or.inl rfl))
  have S5 : XS T' (gS q.2.1 q.2.2) p' (stI h4 14 2 (kI 0)) := S1.fn n15 (fun a w => by rw [t'.two (a := a) (by omega) (by omega)]; omega)
  have sz5 : szA (stI h4 14 2 (kI 0)) = szA h1 := by show szA h4 = _; rw [e4.2.2.2.1, h3e]; rfl
  have us5 : usA (stI h4 14 2 (kI 0)) = usA h1 := by show usA h4 = _; rw [e4.2.2.2.2.1, h3e]; rfl
  have PN := X.I.new (T' := T') (R' := fun x => if x = p' then gS q.2.1 q.2.2 else R x) (s' := gS q.2.1 q.2.2) (p' := p') (y' := gY q.2.1) (v' := v + 1) F X.B.t N05 (fun x w => by unfold ASh A0 at w; omega) (fun x hx => told x (Or.inl hx)) (fun x hx => by rw [if_neg (by omega)]) (fun x hx => by rw [told x (Or.inr (by omega))]; exact X.I.td x (by omega)) (by rw [if_pos rfl]) (by omega) (by omega)
  have i5 : ∀ x k, x ≠ 1 → x ≠ 8 → x ≠ 9 → x ≠ 14 → ivA (stI h4 14 2 (kI 0)) x k = ivA h1 x k := fun x k x1 x2 x3 x4 => by
    rw [iv_stI, if_neg (by omega), e4.2.2.2.2.2.1 x k (by omega), i3 _ _ (by omega)]
  rw [kd_1 F5, r12, S5.k, S5.i5, er]
  have eL : kI ((sL (gS q.2.1 q.2.2) : Nat) : Int) = kI (q.2.1 0) := by
    obtain ⟨_, _, _, _, _, Ln, _, _, _, _, _, g6, _⟩ := gxn.1.q
    show kI (((q.2.1 0).toNat : Nat) : Int) = _
    rw [g6, Int.toNat_natCast]
  refine ⟨rfl, rfl, by show Eqv _ _; rw [eL]; rfl, ⟨N05, F5, ?_, ?_, ?_, ?_, by omega, by omega, PN.2⟩, T', _, p', fun x hx => told x (by omega), fun x hx => ?_, ⟨F5, t', r12, S5, X4.fr f5 (fun k => by omega), ⟨X.B.H.n, by simp, ?_, by rw [iv_stI, if_pos ⟨rfl, rfl⟩]; rfl, fun j hj => absurd hj (Nat.not_lt_zero j)⟩, wf.2, fun j hj => absurd hj (Nat.not_lt_zero j)⟩, PN.1, by have := X.v0; omega, by omega, by omega⟩
  · obtain ⟨k, k9, ek⟩ := Z1
    exact ⟨k, k9, by rw [i5 _ _ (by omega) (by omega) (by omega) (by omega)]; exact ek⟩
  · rw [iv_stI, if_neg (by omega), e4.2.2.2.2.2.1 1 1 (by omega), h3e, iv_stR, iv_stI, if_pos ⟨rfl, rfl⟩]
  · rw [i5 _ _ (by omega) (by omega) (by omega) (by omega)]; exact f1
  · rw [i5 _ _ (by omega) (by omega) (by omega) (by omega)]; exact pl1
  · show (if x = p' then _ else R x) = R x
    rw [if_neg (by omega)]
  · rw [iv_stI, if_neg (by omega), e4.2.2.2.2.2.1 _ _ (by omega), i3 _ _ (by omega), N1.iv 14 (oldF F (by omega)) (by unfold A0; omega)]
    exact X.B.H.i1
theorem X_sheet_no {tp : Nat → Nat} {nt : Nat} {n : Int} {h : AH} (F : Fix h) (t : TX tp nt h) (n1 : -2147483648 ≤ n) (n2 : n ≤ 2147483647) (no : ¬ (0 ≤ n ∧ n ≤ nt)) : GI 1 m_X_sheet [.ref 1, .int (kI n)] h (kI (-3)) (fun h' => h' = h) := by
  have n9 := t.le
  refine GIo (s_X_sheet_0 ?_)
  rw [t.i, kd_1 F]
  by_cases q : n < 0
  · rw [if_pos (by rw [decide_eq_true_eq, z0, kI_lt (by omega) (by omega) (by omega) (by omega)]; exact q)]
    exact ⟨rfl, rfl⟩
  · rw [if_neg (by rw [decide_eq_true_eq, z0, kI_lt (by omega) (by omega) (by omega) (by omega)]; exact q), if_neg (by rw [decide_eq_true_eq, kI_le (by omega) (by omega) (by omega) (by omega)]; omega)]
    exact ⟨rfl, rfl, rfl⟩
