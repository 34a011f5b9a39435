/-! the class reads all lines -/
def A0 (x : Nat) : Prop := 36 ≤ x ∧ x ≤ 43
def LwX (g : LG) (cs : List Nat) (k : Nat) (h0 h : AH) : Prop := (g (4 + k) = 0 → rvA h 36 (9 + k) = 0) ∧ (g (4 + k) = 1 → szA h0 < rvA h 36 (9 + k) ∧ XLq (gLw g cs k) (rvA h 36 (9 + k)) h)
def RQ (tp : Nat → Nat) (n : Nat) (h0 : AH) (a : Nat) (g : LG) (cs : List Nat) (h : AH) : Prop := (RdL tp n a h) ∧ (XG g h) ∧ (GX g cs a) ∧ (cs.length ≤ a) ∧ (FN A0 h0 h) ∧ (LwX g cs 0 h0 h) ∧ (LwX g cs 1 h0 h) ∧ (g 4 = 1 → g 5 = 1 → rvA h 36 9 + 3 ≤ rvA h 36 10 ∨ rvA h 36 10 + 3 ≤ rvA h 36 9) ∧ (usA h ≤ usA h0 + 68 * a) ∧ (szA h ≤ szA h0 + 3 * a)
theorem RQ.L {tp : Nat → Nat} {n : Nat} {h0 : AH} {a : Nat} {g : LG} {cs : List Nat} {h : AH} (C : RQ tp n h0 a g cs h) : RdL tp n a h := C.1
theorem RQ.G {tp : Nat → Nat} {n : Nat} {h0 : AH} {a : Nat} {g : LG} {cs : List Nat} {h : AH} (C : RQ tp n h0 a g cs h) : XG g h := C.2.1
theorem RQ.X {tp : Nat → Nat} {n : Nat} {h0 : AH} {a : Nat} {g : LG} {cs : List Nat} {h : AH} (C : RQ tp n h0 a g cs h) : GX g cs a := C.2.2.1
theorem RQ.le {tp : Nat → Nat} {n : Nat} {h0 : AH} {a : Nat} {g : LG} {cs : List Nat} {h : AH} (C : RQ tp n h0 a g cs h) : cs.length ≤ a := C.2.2.2.1
theorem RQ.N {tp : Nat → Nat} {n : Nat} {h0 : AH} {a : Nat} {g : LG} {cs : List Nat} {h : AH} (C : RQ tp n h0 a g cs h) : FN A0 h0 h := C.2.2.2.2.1
theorem RQ.m {tp : Nat → Nat} {n : Nat} {h0 : AH} {a : Nat} {g : LG} {cs : List Nat} {h : AH} (C : RQ tp n h0 a g cs h) : LwX g cs 0 h0 h := C.2.2.2.2.2.1
theorem RQ.o {tp : Nat → Nat} {n : Nat} {h0 : AH} {a : Nat} {g : LG} {cs : List Nat} {h : AH} (C : RQ tp n h0 a g cs h) : LwX g cs 1 h0 h := C.2.2.2.2.2.2.1
theorem RQ.d {tp : Nat → Nat} {n : Nat} {h0 : AH} {a : Nat} {g : LG} {cs : List Nat} {h : AH} (C : RQ tp n h0 a g cs h) : g 4 = 1 → g 5 = 1 → rvA h 36 9 + 3 ≤ rvA h 36 10 ∨ rvA h 36 10 + 3 ≤ rvA h 36 9 := C.2.2.2.2.2.2.2.1
theorem RQ.us {tp : Nat → Nat} {n : Nat} {h0 : AH} {a : Nat} {g : LG} {cs : List Nat} {h : AH} (C : RQ tp n h0 a g cs h) : usA h ≤ usA h0 + 68 * a := C.2.2.2.2.2.2.2.2.1
theorem RQ.sz {tp : Nat → Nat} {n : Nat} {h0 : AH} {a : Nat} {g : LG} {cs : List Nat} {h : AH} (C : RQ tp n h0 a g cs h) : szA h ≤ szA h0 + 3 * a := C.2.2.2.2.2.2.2.2.2
def RQb (tp : Nat → Nat) (n : Nat) (h0 : AH) (r : Nat × Nat) (h : AH) : Prop := (RdB tp n r h) ∧ (FN A0 h0 h) ∧ (usA h ≤ usA h0 + 68 * n + 1000) ∧ (szA h ≤ szA h0 + 3 * n + 3)
theorem RQb.B {tp : Nat → Nat} {n : Nat} {h0 : AH} {r : Nat × Nat} {h : AH} (C : RQb tp n h0 r h) : RdB tp n r h := C.1
theorem RQb.N {tp : Nat → Nat} {n : Nat} {h0 : AH} {r : Nat × Nat} {h : AH} (C : RQb tp n h0 r h) : FN A0 h0 h := C.2.1
theorem RQb.us {tp : Nat → Nat} {n : Nat} {h0 : AH} {r : Nat × Nat} {h : AH} (C : RQb tp n h0 r h) : usA h ≤ usA h0 + 68 * n + 1000 := C.2.2.1
theorem RQb.sz {tp : Nat → Nat} {n : Nat} {h0 : AH} {r : Nat × Nat} {h : AH} (C : RQb tp n h0 r h) : szA h ≤ szA h0 + 3 * n + 3 := C.2.2.2
def RQo (tp : Nat → Nat) (n : Nat) (h0 : AH) (r : LR) (h : AH) : Prop := match r with
  | .ok q => RQ tp n h0 q.1 q.2.1 q.2.2 h
  | .error e => RQb tp n h0 e h
theorem lx_fn {h h' : AH} (e : FLx h h') : FN A0 h h' := e.fn (fun x k z => by unfold A0; omega) (fun _ _ z => z.elim)
theorem A0_9 {x : Nat} (h : 105 < x) : ¬ A0 x := by unfold A0; omega
theorem XLq.f0 {code : List Nat} {q : Nat} {h h' : AH} (X : XLq code q h) (e : FN A0 h h') : XLq code q h' := X.fn e (fun x h1 _ => A0_9 (by have := X.b; omega))
theorem LwX.f0 {g g' : LG} {cs : List Nat} {k : Nat} {h0 h h' : AH} (X : LwX g cs k h0 h) (e : FN A0 h h') (r : rvA h' 36 (9 + k) = rvA h 36 (9 + k)) (s1 : g' (4 + k) = g (4 + k)) (s2 : g' (6 + k) = g (6 + k)) (s3 : g' (8 + k) = g (8 + k)) : LwX g' cs k h0 h' := by
  unfold LwX gLw
  rw [s1, s2, s3, r]
  exact ⟨X.1, fun z => ⟨(X.2 z).1, (X.2 z).2.f0 e⟩⟩
/-- a line without a law, then what follows -/
theorem RQ.lx {tp : Nat → Nat} {n a a' : Nat} {h0 h h' : AH} {g g' : LG} {cs : List Nat} (Q : RQ tp n h0 a g cs h) (e : FLx h h') (L : RdL tp n a' h') (G : XG g' h') (X : GX g' cs a') (ha : a ≤ a') (s : ∀ i, 4 ≤ i → i ≤ 9 → g' i = g i) : RQ tp n h0 a' g' cs h' := by
  have r : ∀ k, rvA h' 36 k = rvA h 36 k := fun k => by rw [e.2.2.1]
  refine ⟨L, G, X, Nat.le_trans Q.le ha, Q.N.trans (lx_fn e), Q.m.f0 (lx_fn e) (r _) (s _ (by omega) (by omega)) (s _ (by omega) (by omega)) (s _ (by omega) (by omega)), Q.o.f0 (lx_fn e) (r _) (s _ (by omega) (by omega)) (s _ (by omega) (by omega)) (s _ (by omega) (by omega)), ?_, ?_, ?_⟩
  · rw [s 4 (by omega) (by omega), s 5 (by omega) (by omega), r, r]; exact Q.d
  · rw [e.2.2.2.2.1]; have := Q.us; omega
  · rw [e.2.2.2.1]; have := Q.sz; omega
theorem RQ.bad {tp : Nat → Nat} {n a : Nat} {h0 h h' : AH} {g : LG} {cs : List Nat} {r : Nat × Nat} (Q : RQ tp n h0 a g cs h) (e : FLx h h') (B : RdB tp n r h') : RQb tp n h0 r h' := by
  have an := Q.L.an
  refine ⟨B, Q.N.trans (lx_fn e), ?_, ?_⟩
  · rw [e.2.2.2.2.1]; have := Q.us; omega
  · rw [e.2.2.2.1]; have := Q.sz; omega
theorem GLw.keep {g g' : LG} {cs xs : List Nat} {k : Nat} {b : Bool} (X : GLw g cs k b) (s1 : g' (4 + k) = g (4 + k)) (s2 : g' (6 + k) = g (6 + k)) (s3 : g' (8 + k) = g (8 + k)) : gLw g' (cs ++ xs) k = gLw g cs k := by
  unfold gLw
  rw [s1, s2, s3]
  rcases X with X | ⟨h1, fr, len, h2, h3, h4, h5⟩
  · rw [if_neg (by omega), if_neg (by omega)]
  · rw [if_pos h1, if_pos h1, h2, h3, Int.toNat_natCast, Int.toNat_natCast, List.drop_append_of_le_length (by omega), List.take_append_of_le_length (by rw [List.length_drop]; omega)]
theorem fix_36 {h : AH} (F : Fix h) {k x : Nat} (hk : k = 9 ∨ k = 10) : Fix (stR h 36 k x) := by
  refine fix_stR F ?_
  have t : ∀ q ∈ rvTab, ¬ (q.1 = 36 ∧ (q.2.1 = 9 ∨ q.2.1 = 10)) := by decide +kernel
  intro q hq w
  exact t q hq ⟨w.1, by rw [w.2]; exact hk⟩
theorem iv_all_stR {tp : Nat → Nat} {n : Nat} {h : AH} {k x : Nat} (hk : k = 9 ∨ k = 10) (R : XR tp n h) : XR tp n (stR h 36 k x) := by
  refine ⟨fix_36 R.F hk, ⟨R.O.1, fun i hi => ?_⟩, R.le, R.v, R.b⟩
  have o := R.O.2 i hi
  refine ⟨o.1, ?_, o.2.2⟩
  rw [rv_stR, if_neg (by omega)]
  exact o.2.1
theorem RdB.r36 {tp : Nat → Nat} {n : Nat} {r : Nat × Nat} {h : AH} (B : RdB tp n r h) {k x : Nat} (hk : k = 9 ∨ k = 10) : RdB tp n r (stR h 36 k x) := ⟨iv_all_stR hk B.R, B.W, B.r1, B.f, B.p, B.z⟩
theorem RdL.r36 {tp : Nat → Nat} {n a : Nat} {h : AH} (S : RdL tp n a h) {k x : Nat} (hk : k = 9 ∨ k = 10) : RdL tp n a (stR h 36 k x) := ⟨iv_all_stR hk S.R, S.K, S.an, S.f, S.p, S.z⟩
theorem XG.r36 {g : LG} {h : AH} (G : XG g h) {k x : Nat} : XG g (stR h 36 k x) := ⟨G.r, G.w, G.hh, G.ln, G.kd, G.st⟩
def lwR (g : LG) (cs : List Nat) (lw : Nat) (r : PR) : LR := match r with
  | .error e => .error e
  | .ok q => .ok (q.1, upG (upG (upG g (4 + lw) 1) (6 + lw) (cs.length : Nat)) (8 + lw) (((cs ++ q.2).length : Int) - cs.length), cs ++ q.2)
def RdO (tp : Nat → Nat) (n lw : Nat) (r : PR) (h : AH) : Prop := match r with
  | .ok q => RdS tp n lw q.1 q.2 h
  | .error e => RdB tp n e h
/-- the end of a law line: the law is made and kept -/
theorem X_lawEnd {tp : Nat → Nat} {n a lw : Nat} {h0 h h2 : AH} {g : LG} {cs : List Nat} (hl : lw ≤ 1) (Q : RQ tp n h0 a g cs h) (an : a < n) (e2 : FLx h h2) (hz : szA h0 + 3 * n < 980000) {r : PR} (T : tKd tp n a = lw + 6) (er : (if tKd tp n (nxA tp n a) = 31 then PP tp n lw (7 * n + 7) (if lw = 1 then 3 else 9) 0 (nxA tp n (nxA tp n a)) [] else .error (fkF tp n (nxA tp n a) 2, nxA tp n a)) = r) (i58 : ∀ k, 5 ≤ k → k ≤ 8 → ivA h2 36 k = ivA h 36 k) (i40 : ∀ x k, (x = 40 ∨ x = 42 ∨ x = 43) → ivA h2 x k = ivA h x k) (P : RdO tp n lw r h2) {d : Nat} (hd : 2 ≤ d) {K : AH → Prop} (H : ∀ h4, kdA h4 36 = 6 → RQo tp n h0 (linF tp n a g cs) (stR h4 36 (9 + lw) (szA h2 + 1)) → K h4) : CallV d m_La_new [.ref (szA h2 + 1), .ref (rvA (nwA h2 2 3) 36 2), .int (ivA (nwA h2 2 3) 36 3)] (nwA h2 2 3) K := by
  have qs := Q.sz
  have qu := Q.us
  have z2 : szA h2 = szA h := e2.2.2.2.1
  have u2 : usA h2 = usA h := e2.2.2.2.2.1
  have k9 : 9 + lw = 9 ∨ 9 + lw = 10 := by omega
  have n9 := Q.L.R.le
  have nb := nxA_b (tp := tp) an
  have el : linF tp n a g cs = lwR g cs lw r := by
    unfold linF
    rw [if_neg (by omega), if_neg (by omega), if_neg (by omega), if_pos (by omega), T, show lw + 6 - 6 = lw by omega]
    unfold lawF
    rw [← er]
    by_cases z : tKd tp n (nxA tp n a) = 31
    · rw [if_pos z, if_pos z]
      have m9 : (if lw = 1 then 3 else 9) ≤ 9 := by split <;> omega
      have pe := PP_pre (tp := tp) (n := n) (law := lw) (pre := cs) (7 * n + 7) (if lw = 1 then 3 else 9) 0 (nxA tp n (nxA tp n a)) [] m9
      rw [List.append_nil] at pe
      rw [pe]
      unfold lwR
      cases PP tp n lw (7 * n + 7) (if lw = 1 then 3 else 9) 0 (nxA tp n (nxA tp n a)) [] with
      | error x => rfl
      | ok q => rfl
    · rw [if_neg z, if_neg z]
      rfl
  rw [el] at H
  cases r with
  | error e =>
    have B : RdB tp n e h2 := P
    have F2 := B.R.F
    obtain ⟨k, kk, e3⟩ := B.z
    refine La_made F2 (by omega) e3 kk hd (fun h4 f4 z4 u4 _ => ?_)
    have B4 : RdB tp n e h4 := B.f9 f4 (fun x w => w.elim)
    refine H h4 (kd_36 B4.R.F) ⟨B4.r36 k9, (Q.N.trans (lx_fn e2)).trans ((f4.mono (fun x w => w.elim)).trans (FN_stR (by unfold A0; omega))), ?_, ?_⟩
    · show usA h4 ≤ _; omega
    · show szA h4 ≤ _; omega
  | ok q =>
    have S : RdS tp n lw q.1 q.2 h2 := P
    have F2 := S.1.R.F
    have z31 : tKd tp n (nxA tp n a) = 31 := by
      by_cases z : tKd tp n (nxA tp n a) = 31
      · exact z
      · rw [if_neg z] at er; cases er
    rw [if_pos z31] at er
    have nb2 := nxA_b (tp := tp) (kd_n (tp := tp) (n := n) (a := nxA tp n a) (by omega))
    have m9 : (if lw = 1 then 3 else 9) ≤ 9 := by split <;> omega
    have go := PP_go _ _ _ _ _ q.1 q.2 m9 nb2.2 er
    have gl : q.2.length + nxA tp n (nxA tp n a) ≤ q.1 := by have := go.2.2.1; rw [List.length_nil] at this; omega
    have ga : nxA tp n (nxA tp n a) < q.1 := go.2.2.2 (by unfold lpM; split <;> omega)
    have gx : GX (upG (upG (upG g (4 + lw) 1) (6 + lw) (cs.length : Nat)) (8 + lw) (((cs ++ q.2).length : Int) - cs.length)) (cs ++ q.2) a := lin_gx (q := (q.1, _, _)) Q.X el
    have li := lin_ok an Q.X.gw Q.le el
    have cb : ∀ c ∈ q.2, c < 1008 ∨ (3000 ≤ c ∧ c ≤ 3008) := by
      have J := PP_ty _ _ _ _ _ _ _ [] m9 (by omega) er (by unfold kM; rcases (by omega : lw = 0 ∨ lw = 1) with w | w <;> subst w <;> decide) ⟨by rcases (by omega : lw = 0 ∨ lw = 1) with w | w <;> subst w <;> rfl, fun c hc => absurd hc List.not_mem_nil⟩
      intro c hc
      have := J.2 c hc
      split at this <;> omega
    refine La_made F2 (by omega) S.2.sz (by omega) hd (fun h4 f4 z4 u4 X4 => ?_)
    have XQ := X4 q.2 rfl cb S.2.cd
    have L4 := S.1.f9 f4 (fun x w => w.elim)
    have F4 := L4.R.F
    have f24 : FN A0 h2 (stR h4 36 (9 + lw) (szA h2 + 1)) := (f4.mono (fun x w => w.elim)).trans (FN_stR (by unfold A0; omega))
    have f04 : FN A0 h (stR h4 36 (9 + lw) (szA h2 + 1)) := (lx_fn e2).trans f24
    have rv4 : ∀ k, k ≠ 9 + lw → rvA (stR h4 36 (9 + lw) (szA h2 + 1)) 36 k = rvA h 36 k := fun k hk => by
      rw [rv_stR, if_neg (by omega), f4.rv 36 (oldF F2 (by omega)) (fun w => w) k, e2.2.2.1]
    have rvn : rvA (stR h4 36 (9 + lw) (szA h2 + 1)) 36 (9 + lw) = szA h2 + 1 := by rw [rv_stR, if_pos ⟨rfl, rfl⟩]
    have G2 : XG g h2 := by
      obtain ⟨v, X⟩ := Q.G.st
      exact ⟨by rw [i58 _ (by omega) (by omega)]; exact Q.G.r, by rw [i58 _ (by omega) (by omega)]; exact Q.G.w, by rw [i58 _ (by omega) (by omega)]; exact Q.G.hh, by rw [i58 _ (by omega) (by omega)]; exact Q.G.ln, fun k hk => by rw [i40 _ _ (by omega)]; exact Q.G.kd k hk, v, by rw [i40 _ _ (by omega)]; exact X.i0, by rw [i40 _ _ (by omega)]; exact X.i1, by rw [i40 _ _ (by omega)]; exact X.i2, by rw [i40 _ _ (by omega)]; exact X.i3, fun k hk => by rw [i40 _ _ (by omega)]; exact X.b k hk⟩
    have G4 : XG g (stR h4 36 (9 + lw) (szA h2 + 1)) := (G2.f9 F2 f4 (fun x w => w.elim)).r36
    obtain ⟨g', hg'⟩ : ∃ g', g' = upG (upG (upG g (4 + lw) 1) (6 + lw) (cs.length : Nat)) (8 + lw) (((cs ++ q.2).length : Int) - cs.length) := ⟨_, rfl⟩
    have go' : ∀ i, i ≠ 4 + lw → i ≠ 6 + lw → i ≠ 8 + lw → g' i = g i := fun i i1 i2 i3 => by rw [hg', upG_ne i3, upG_ne i2, upG_ne i1]
    have G5 : XG g' (stR h4 36 (9 + lw) (szA h2 + 1)) := by
      obtain ⟨v, X⟩ := G4.st
      have ey : gY g' = gY g := by rw [hg', gY_up (by omega), gY_up (by omega), gY_up (by omega)]
      exact ⟨by rw [go' _ (by omega) (by omega) (by omega)]; exact G4.r, by rw [go' _ (by omega) (by omega) (by omega)]; exact G4.w, by rw [go' _ (by omega) (by omega) (by omega)]; exact G4.hh, by rw [go' _ (by omega) (by omega) (by omega)]; exact G4.ln, fun k hk => by rw [go' _ (by omega) (by omega) (by omega)]; exact G4.kd k hk, v, by rw [ey]; exact X⟩
    have new4 : g' (4 + lw) = 1 := by rw [hg', upG_ne (by omega), upG_ne (by omega), upG_eq]
    have newc : gLw g' (cs ++ q.2) lw = q.2 := by
      unfold gLw
      rw [if_pos new4, hg', upG_eq, upG_ne (by omega), upG_eq, Int.toNat_natCast, show ((((cs ++ q.2).length : Nat) : Int) - (cs.length : Int)).toNat = q.2.length by rw [List.length_append]; omega, List.drop_left, List.take_length]
    have XQ5 : XLq q.2 (szA h2 + 1) (stR h4 36 (9 + lw) (szA h2 + 1)) := XQ.fn (FN_stR (A := A0) (by unfold A0; omega)) (fun x h1 _ => A0_9 (by have := XQ.b; omega))
    have lwn : LwX g' (cs ++ q.2) lw h0 (stR h4 36 (9 + lw) (szA h2 + 1)) := by
      unfold LwX
      rw [newc, rvn]
      have := Q.N.sz
      exact ⟨fun z => by omega, fun _ => ⟨by omega, XQ5⟩⟩
    have lwo : ∀ k b, k ≤ 1 → k ≠ lw → GLw g cs k b → LwX g cs k h0 h → LwX g' (cs ++ q.2) k h0 (stR h4 36 (9 + lw) (szA h2 + 1)) := fun k b k1 kn Y X => by
      unfold LwX
      rw [Y.keep (g' := g') (go' _ (by omega) (by omega) (by omega)) (go' _ (by omega) (by omega) (by omega)) (go' _ (by omega) (by omega) (by omega)), go' _ (by omega) (by omega) (by omega), rv4 _ (by omega)]
      exact ⟨X.1, fun z => ⟨(X.2 z).1, (X.2 z).2.f0 f04⟩⟩
    rw [← hg'] at gx
    refine H h4 (kd_36 F4) ?_
    show RQ tp n h0 q.1 (upG (upG (upG g (4 + lw) 1) (6 + lw) (cs.length : Nat)) (8 + lw) (((cs ++ q.2).length : Int) - cs.length)) (cs ++ q.2) _
    rw [← hg']
    have li3 : (cs ++ q.2).length ≤ q.1 := li.2.2.2
    have dq : ∀ k, k ≤ 1 → k ≠ lw → g (4 + k) = 1 → LwX g cs k h0 h → rvA h 36 (9 + k) + 3 ≤ szA h2 + 1 := fun k _ _ gk X => by
      have := (X.2 gk).2.b
      omega
    refine ⟨L4.r36 k9, G5, gx.mono (by omega), li3, (Q.N.trans f04), ?_, ?_, fun g4 g5 => ?_, ?_, ?_⟩
    · by_cases w : lw = 0
      · subst w; exact lwn
      · exact lwo 0 true (by omega) (by omega) Q.X.m Q.m
    · by_cases w : lw = 1
      · subst w; exact lwn
      · exact lwo 1 false (by omega) (by omega) Q.X.o Q.o
    · rcases (by omega : lw = 0 ∨ lw = 1) with w | w
      · subst w
        have := dq 1 (by omega) (by omega) (by rw [← g5, go' 5 (by omega) (by omega) (by omega)]) Q.o
        rw [show (9 : Nat) = 9 + 0 from rfl, rvn, rv4 _ (by omega)]
        exact Or.inr this
      · subst w
        have := dq 0 (by omega) (by omega) (by rw [← g4, go' 4 (by omega) (by omega) (by omega)]) Q.m
        rw [show (10 : Nat) = 9 + 1 from rfl, rvn, rv4 _ (by omega)]
        exact Or.inl this
    · show usA h4 ≤ _; omega
    · show szA h4 ≤ _; omega
