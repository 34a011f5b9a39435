/-! the class reads numbers and the lines that tell no law -/
theorem Re_number_b {tp : Nat → Nat} {n d : Nat} {r : Nat × Nat} {h : AH} (B : RdB tp n r h) {x y : Int32} (hd : 2 ≤ d) {K : Int32 → AH → Prop} : CallI d m_Re_number [.ref 36, .int x, .int y] h K ↔ K x h := by
  refine Ret.I (d := 2) (ret_of (s_Re_number_0 ?_)) hd
  rw [rv_36_0 B.R.F, kd_36 B.R.F, kd_37 B.R.F, if_pos B.nz.1]
  refine ⟨rfl, rfl, rfl, s_Re_number_23 ?_⟩
  rw [kd_36 B.R.F, Re_refuse_b B (by omega)]
  exact ⟨rfl, rfl, rfl⟩
theorem Re_number_y {tp : Nat → Nat} {n a lo hi b v : Nat} {h : AH} (S : RdL tp n a h) (l1 : hi < 10000) (l2 : lo < 10000) (e : tkF tp n lo hi a = .ok (b, v)) : GI 2 m_Re_number [.ref 36, .int (kI lo), .int (kI hi)] h (kI v) (fun h' => FAd h h' ∧ RdL tp n b h') := by
  have F := S.R.F
  unfold tkF at e
  by_cases q : tKd tp n a = 23
  · rw [if_pos q] at e
    by_cases q2 : lo ≤ tNm tp n a ∧ tNm tp n a ≤ hi
    · rw [if_pos q2] at e
      injection e with e
      injection e with e1 e2
      subst e1 e2
      have tb := tNm_b q
      refine GIo (s_Re_number_0 ?_)
      rw [rv_36_0 F, kd_36 F, kd_37 F, if_neg S.nz, S.K.c, cdX_n q, kI_sub, show ((1000 + tNm tp n a : Nat) : Int) - 1000 = ((tNm tp n a : Nat) : Int) by omega, if_pos (by rw [decide_eq_true_eq, z0, kI_le (by omega) (by omega) (by omega) (by omega)]; omega), if_neg (by rw [decide_eq_true_eq, kI_lt (by omega) (by omega) (by omega) (by omega)]; omega), if_pos (by rw [decide_eq_true_eq, kI_le (by omega) (by omega) (by omega) (by omega)]; omega)]
      exact ⟨rfl, rfl, rfl, rfl, rfl, GV.use (Re_adv S (kd_n (tp := tp) (n := n) (a := a) (by omega))) (by omega) (fun h' e => ⟨rfl, e⟩)⟩
    · rw [if_neg q2] at e
      cases e
  · rw [if_neg q] at e
    cases e
theorem Re_number_n {tp : Nat → Nat} {n a lo hi : Nat} {r : Nat × Nat} {h : AH} (S : RdL tp n a h) (l1 : hi < 10000) (l2 : lo < 10000) (e : tkF tp n lo hi a = .error r) : GI 2 m_Re_number [.ref 36, .int (kI lo), .int (kI hi)] h (kI lo) (fun h' => FRf h h' ∧ RdB tp n r h') := by
  have F := S.R.F
  have cb := cdX_b (tp := tp) (n := n) (a := a)
  unfold tkF at e
  by_cases q : tKd tp n a = 23
  · rw [if_pos q] at e
    by_cases q2 : lo ≤ tNm tp n a ∧ tNm tp n a ≤ hi
    · rw [if_pos q2] at e
      cases e
    · rw [if_neg q2] at e
      injection e with e
      subst e
      have tb := tNm_b q
      have e3 : fkF tp n a 3 = 3 := by unfold fkF; rw [if_neg (by omega)]
      have s40 : Safe 1 m_Re_number (40, [.ref 36, .int (kI lo), unV, unV], [], h) (fun v h' => Eqv v (some (.int (kI lo))) ∧ FRf h h' ∧ RdB tp n (3, a) h') := by
        refine s_Re_number_40 ?_
        rw [kd_36 F]
        refine ⟨rfl, GV.use (Re_refuse_g S (k := 3) (by omega) (by omega)) (by omega) (fun h' e => ⟨rfl, ?_⟩)⟩
        rw [e3] at e
        exact e
      refine GIo (s_Re_number_0 ?_)
      rw [rv_36_0 F, kd_36 F, kd_37 F, if_neg S.nz, S.K.c, cdX_n q, kI_sub, show ((1000 + tNm tp n a : Nat) : Int) - 1000 = ((tNm tp n a : Nat) : Int) by omega, if_pos (by rw [decide_eq_true_eq, z0, kI_le (by omega) (by omega) (by omega) (by omega)]; omega)]
      refine ⟨rfl, rfl, rfl, ?_⟩
      by_cases q3 : tNm tp n a < lo
      · rw [if_pos (by rw [decide_eq_true_eq, kI_lt (by omega) (by omega) (by omega) (by omega)]; omega)]
        exact s40
      · rw [if_neg (by rw [decide_eq_true_eq, kI_lt (by omega) (by omega) (by omega) (by omega)]; omega), if_neg (by rw [decide_eq_true_eq, kI_le (by omega) (by omega) (by omega) (by omega)]; omega)]
        exact s40
  · rw [if_neg q] at e
    injection e with e
    subst e
    have c1 : ¬ 1000 ≤ cdX tp n a := fun z => q (cdX_23.mp z)
    refine GIo (s_Re_number_0 ?_)
    rw [rv_36_0 F, kd_36 F, kd_37 F, if_neg S.nz, S.K.c, kI_sub, if_neg (by rw [decide_eq_true_eq, z0, kI_le (by omega) (by omega) (by omega) (by omega)]; omega)]
    refine ⟨rfl, rfl, rfl, s_Re_number_23 ?_⟩
    rw [kd_36 F]
    exact ⟨rfl, GV.use (Re_refuse_g S (k := 2) (by omega) (by omega)) (by omega) (fun h' e => ⟨rfl, e⟩)⟩
/-! what the class has been told so far -/
def XG (g : LG) (h : AH) : Prop := (ivA h 36 5 = kI (g 1)) ∧ (ivA h 36 6 = kI (g 2)) ∧ (ivA h 36 7 = kI (g 3)) ∧ (ivA h 36 8 = kI (g 0)) ∧ (∀ k, k < 12 → ivA h 40 k = kI (g (10 + k))) ∧ (∃ v, XP (gY g) v 42 h)
theorem XG.r {g : LG} {h : AH} (C : XG g h) : ivA h 36 5 = kI (g 1) := C.1
theorem XG.w {g : LG} {h : AH} (C : XG g h) : ivA h 36 6 = kI (g 2) := C.2.1
theorem XG.hh {g : LG} {h : AH} (C : XG g h) : ivA h 36 7 = kI (g 3) := C.2.2.1
theorem XG.ln {g : LG} {h : AH} (C : XG g h) : ivA h 36 8 = kI (g 0) := C.2.2.2.1
theorem XG.kd {g : LG} {h : AH} (C : XG g h) : ∀ k, k < 12 → ivA h 40 k = kI (g (10 + k)) := C.2.2.2.2.1
theorem XG.st {g : LG} {h : AH} (C : XG g h) : ∃ v, XP (gY g) v 42 h := C.2.2.2.2.2
abbrev FLx (h h' : AH) : Prop := Fr (fun x k => (x = 36 ∧ 3 ≤ k) ∨ (x = 37 ∧ 3 ≤ k) ∨ (40 ≤ x ∧ x ≤ 43)) JM h h'
theorem lx_re {h h' : AH} (e : FRe h h') : FLx h h' := e.mono (fun x k z => by omega) (fun _ _ z => z)
theorem lx_ad {h h' : AH} (e : FAd h h') : FLx h h' := e.mono (fun x k z => by omega) (fun _ _ z => z)
theorem lx_rf {h h' : AH} (e : FRf h h') : FLx h h' := e.mono (fun x k z => by omega) (fun _ _ z => z)
theorem lx_st {h h1 : AH} (e : FLx h h1) {x k : Nat} (hk : (x = 36 ∧ 3 ≤ k) ∨ (x = 37 ∧ 3 ≤ k) ∨ (40 ≤ x ∧ x ≤ 43)) (v : Int32) : FLx h (stI h1 x k v) := Fr.stI (I := fun x k => (x = 36 ∧ 3 ≤ k) ∨ (x = 37 ∧ 3 ≤ k) ∨ (40 ≤ x ∧ x ≤ 43)) e hk v
theorem XG.fe {g : LG} {I J : Nat → Nat → Prop} {h h' : AH} (G : XG g h) (e : Fr I J h h') (hi : ∀ x k, I x k → (x = 36 ∧ (k < 5 ∨ 8 < k)) ∨ x = 37 ∨ x = 41) : XG g h' := by
  have i : ∀ k, 5 ≤ k → k ≤ 8 → ivA h' 36 k = ivA h 36 k := fun k h1 h2 => e.2.2.2.2.2.1 36 k (fun z => by have := hi _ _ z; omega)
  refine ⟨by rw [i _ (by omega) (by omega)]; exact G.r, by rw [i _ (by omega) (by omega)]; exact G.w, by rw [i _ (by omega) (by omega)]; exact G.hh, by rw [i _ (by omega) (by omega)]; exact G.ln, fun k hk => by rw [e.2.2.2.2.2.1 40 k (fun z => by have := hi _ _ z; omega)]; exact G.kd k hk, ?_⟩
  obtain ⟨v, X⟩ := G.st
  exact ⟨v, X.fr e (fun k => ⟨fun z => by have := hi _ _ z; omega, fun z => by have := hi _ _ z; omega⟩)⟩
theorem XG.fa {g : LG} {h h' : AH} (G : XG g h) (e : FAd h h') : XG g h' := G.fe e (fun x k z => by omega)
theorem XG.re {g : LG} {h h' : AH} (G : XG g h) (e : FRe h h') : XG g h' := G.fe e (fun x k z => by omega)
theorem TkS.fe {tp : Nat → Nat} {n a : Nat} {I J : Nat → Nat → Prop} {h h' : AH} (S : TkS tp n a h) (e : Fr I J h h') (hi : ∀ x k, I x k → x ≠ 37 ∧ x ≠ 38 ∧ x ≠ 39) : TkS tp n a h' := by
  have i : ∀ x k, (x = 37 ∨ x = 38 ∨ x = 39) → ivA h' x k = ivA h x k := fun x k hx => e.2.2.2.2.2.1 x k (fun z => by have := hi _ _ z; omega)
  obtain ⟨m, j, hj, A, ea, e3⟩ := S.x
  exact ⟨by rw [i _ _ (by omega)]; exact S.c, by rw [i _ _ (by omega)]; exact S.p, m, j, hj, ⟨A.m9, by rw [i _ _ (by omega)]; exact A.i2, A.en, A.lt, fun k hk => by rw [i _ _ (by omega), i _ _ (by omega)]; exact A.ar k hk⟩, ea, by rw [i _ _ (by omega)]; exact e3⟩
theorem RdL.fe {tp : Nat → Nat} {n a : Nat} {I J : Nat → Nat → Prop} {h h' : AH} (S : RdL tp n a h) (e : Fr I J h h') (hi : ∀ x k, I x k → x < 1000000 ∧ x ≠ 37 ∧ x ≠ 38 ∧ x ≠ 39 ∧ x ≠ 2 ∧ (x = 36 → k ≠ 3 ∧ k ≠ 11 ∧ k ≠ 12)) : RdL tp n a h' := by
  refine ⟨S.R.fr e (fun x k z => by have := hi _ _ z; omega), S.K.fe e (fun x k z => by have := hi _ _ z; omega), S.an, ?_, ?_, ?_⟩
  · rw [e.2.2.2.2.2.1 36 11 (fun z => by have := hi _ _ z; omega)]; exact S.f
  · rw [e.2.2.2.2.2.1 36 12 (fun z => by have := hi _ _ z; omega)]; exact S.p
  · rw [e.2.2.2.2.2.1 36 3 (fun z => by have := hi _ _ z; omega)]; exact S.z
theorem RdB.fe {tp : Nat → Nat} {n : Nat} {r : Nat × Nat} {I J : Nat → Nat → Prop} {h h' : AH} (S : RdB tp n r h) (e : Fr I J h h') (hi : ∀ x k, I x k → x < 1000000 ∧ x ≠ 37 ∧ x ≠ 2 ∧ (x = 36 → k ≠ 3 ∧ k ≠ 11 ∧ k ≠ 12)) : RdB tp n r h' := by
  refine ⟨S.R.fr e (fun x k z => by have := hi _ _ z; omega), ?_, S.r1, ?_, ?_, ?_⟩
  · obtain ⟨m, i, h1, h2, h3, h4⟩ := S.W
    exact ⟨m, i, h1, h2, by rw [e.2.2.2.2.2.1 37 2 (fun z => by have := hi _ _ z; omega)]; exact h3, by rw [e.2.2.2.2.2.1 37 3 (fun z => by have := hi _ _ z; omega)]; exact h4⟩
  · rw [e.2.2.2.2.2.1 36 11 (fun z => by have := hi _ _ z; omega)]; exact S.f
  · rw [e.2.2.2.2.2.1 36 12 (fun z => by have := hi _ _ z; omega)]; exact S.p
  · rw [e.2.2.2.2.2.1 36 3 (fun z => by have := hi _ _ z; omega)]; exact S.z
abbrev F1 (x k : Nat) (h h' : AH) : Prop := Fr (fun a j => a = x ∧ j = k) JM h h'
theorem F1_st (h : AH) (x k : Nat) (v : Int32) : F1 x k h (stI h x k v) := (Fr_rfl (fun a j => a = x ∧ j = k) JM h).stI ⟨rfl, rfl⟩ v
/-- a line without a law: read, or refused -/
def XLo (tp : Nat → Nat) (n : Nat) (r : LR) (h h' : AH) : Prop := FLx h h' ∧ match r with
  | .ok q => RdL tp n q.1 h' ∧ XG q.2.1 h'
  | .error e => RdB tp n e h'
theorem gY_hab {g : LG} {H x : Nat} (hH : H < 4) : dHab (gY g) H x = gY (upG g (25 + H) (x : Nat)) := by
  unfold dHab gY
  show ((g 22).toNat, (g 23).toNat, (-1 : Int), fun k => if k = H then x else if k < 4 then (g (25 + k)).toNat else 0) = _
  rw [upG_ne (by omega), upG_ne (by omega)]
  congr 1
  congr 1
  congr 1
  funext k
  by_cases q : k = H
  · subst q
    rw [if_pos rfl, if_pos hH, upG_eq, Int.toNat_natCast]
  · rw [if_neg q]
    by_cases q2 : k < 4
    · rw [if_pos q2, if_pos q2, upG_ne (by omega)]
    · rw [if_neg q2, if_neg q2]
theorem gY_up {g : LG} {i : Nat} (h : i ≠ 22 ∧ i ≠ 23 ∧ (i < 25 ∨ 28 < i)) (x : Int) : gY (upG g i x) = gY g := by
  unfold gY
  rw [upG_ne (by omega), upG_ne (by omega)]
  congr 1
  congr 1
  congr 1
  funext k
  by_cases q2 : k < 4
  · rw [if_pos q2, if_pos q2, upG_ne (by omega)]
  · rw [if_neg q2, if_neg q2]
theorem XG.kst {g : LG} {h : AH} (G : XG g h) {j : Nat} (hj : j < 12) (x : Int) : XG (upG g (10 + j) x) (stI h 40 j (kI x)) := by
  have o : ∀ y k, y ≠ 40 → ivA (stI h 40 j (kI x)) y k = ivA h y k := fun y k hy => by rw [iv_stI, if_neg (by omega)]
  refine ⟨by rw [o _ _ (by omega), upG_ne (by omega)]; exact G.r, by rw [o _ _ (by omega), upG_ne (by omega)]; exact G.w, by rw [o _ _ (by omega), upG_ne (by omega)]; exact G.hh, by rw [o _ _ (by omega), upG_ne (by omega)]; exact G.ln, fun k hk => ?_, ?_⟩
  · rw [iv_stI]
    by_cases q : k = j
    · rw [if_pos ⟨rfl, q⟩, q, upG_eq]
    · rw [if_neg (by omega), upG_ne (by omega)]
      exact G.kd k hk
  · obtain ⟨v, X⟩ := G.st
    rw [gY_up (by omega)]
    exact ⟨v, X.fr (F1_st h 40 j (kI x)) (fun k => by omega)⟩
/-! a row -/
theorem Re_rowLine_26b {tp : Nat → Nat} {n W : Nat} {r : Nat × Nat} {h0 : AH} {f0 : Nat} (hf : f0 ≤ 200) (hW : W ≤ 12) : ∀ i, i ≤ W → ∀ h, FLx h0 h → RdB tp n r h → ivA h 36 6 = kI W → Safe 2 m_Re_rowLine (26, [.ref 36, .int (kI f0), .int (kI i), unV], [], h) (fun v h' => Eqv v none ∧ FLx h0 h' ∧ RdB tp n r h') := by
  refine down_ind W ?_ ?_
  · intro h e B w
    refine s_Re_rowLine_26 ?_
    rw [w, if_pos (by rw [decide_eq_true_eq, kI_le (by omega) (by omega) (by omega) (by omega)]; omega), kd_36 B.R.F]
    exact ⟨rfl, rfl, e, B⟩
  · intro i hi ih h e B w
    have F := B.R.F
    refine s_Re_rowLine_26 ?_
    rw [w, if_neg (by rw [decide_eq_true_eq, kI_le (by omega) (by omega) (by omega) (by omega)]; omega), kd_36 F, Re_number_b B (by omega), kd_36 F, rv_36_1 F, kd_40 F, ln_40 F, kI_add, kI_add, show (f0 : Int) + (i : Int) = ((f0 + i : Nat) : Int) by omega, ix_kI (by omega)]
    refine ⟨rfl, rfl, rfl, rfl, ?_⟩
    by_cases q : 12 ≤ f0 + i
    · rw [if_pos (by rw [decide_eq_true_eq, kI_le (by omega) (by omega) (by omega) (by omega)]; omega)]
      exact ih h e B w
    · rw [if_neg (by rw [decide_eq_true_eq, kI_le (by omega) (by omega) (by omega) (by omega)]; omega)]
      refine ⟨rfl, rfl, inB_kI (by omega) (by omega), ?_⟩
      exact ih _ (lx_st e (by omega) _) (B.fe (F1_st h 40 (f0 + i) _) (fun x k z => by omega)) (by rw [iv_stI, if_neg (by omega)]; exact w)
theorem Re_rowLine_g {tp : Nat → Nat} {n a : Nat} {g : LG} {cs : List Nat} {h : AH} (S : RdL tp n a h) (G : XG g h) {R W : Nat} (gR : g 1 = R) (gW : g 2 = W) (r1 : 1 ≤ R) (w1 : 1 ≤ W) (rw12 : R * W ≤ 12) (an : a < n) : GV 3 m_Re_rowLine [.ref 36] h (XLo tp n (rowF tp n a g cs) h) := by
  have F := S.R.F
  have R12 : R ≤ 12 := Nat.le_trans (Nat.le_mul_of_pos_right R w1) rw12
  have W12 : W ≤ 12 := Nat.le_trans (Nat.le_mul_of_pos_left W r1) rw12
  refine GVo (s_Re_rowLine_0 ?_)
  rw [rv_36_0 F, kd_36 F, kd_37 F]
  refine ⟨rfl, rfl, GV.use (Re_adv S an) (by omega) (fun h1 e1 => ?_)⟩
  have G1 := G.fa e1.1
  have F1' := e1.2.R.F
  rw [kd_36 F1', G1.r, gR, kI_sub, show (R : Int) - 1 = ((R - 1 : Nat) : Int) by omega]
  unfold rowF
  rw [gR, gW, Int.toNat_natCast, Int.toNat_natCast]
  refine ⟨rfl, rfl, ?_⟩
  cases ht : tkF tp n 0 (R - 1) (nxA tp n a) with
  | error x =>
    refine GI.use (Re_number_n (lo := 0) (hi := R - 1) e1.2 (by omega) (by omega) ht) (by omega) (fun h2 e2 => ?_)
    have G2 := G1.re (re_of' e2.1)
    rw [kd_36 e2.2.R.F, G2.w, gW, kI_mul, show ((0 : Nat) : Int) * (W : Int) = ((0 : Nat) : Int) by omega]
    exact ⟨rfl, Re_rowLine_26b (by omega) W12 0 (by omega) h2 ((lx_ad e1.1).trans (lx_rf e2.1)) e2.2 (by rw [G2.w, gW])⟩
  | ok p =>
    have t := tkF_ok (b := p.1) (v := p.2) ht
    refine GI.use (Re_number_y (lo := 0) (hi := R - 1) e1.2 (by omega) (by omega) ht) (by omega) (fun h2 e2 => ?_)
    have G2 := G1.fa e2.1
    have hi : W * p.2 + W ≤ 12 := by
      have : W * (p.2 + 1) ≤ W * R := Nat.mul_le_mul_left W (by omega)
      rw [Nat.mul_add, Nat.mul_one, Nat.mul_comm W R] at this
      omega
    rw [kd_36 e2.2.R.F, G2.w, gW, kI_mul, show ((p.2 : Nat) : Int) * (W : Int) = ((W * p.2 : Nat) : Int) by rw [Nat.mul_comm]; omega]
    refine ⟨rfl, ?_⟩
    suffices H : ∀ k, k ≤ W → ∀ m b g' h3, m + k = W → FLx h h3 → RdL tp n b h3 → XG g' h3 → g' 2 = W → Safe 2 m_Re_rowLine (26, [.ref 36, .int (kI (W * p.2 : Nat)), .int (kI k), unV], [], h3) (fun v h' => Eqv v none ∧ XLo tp n (rlF tp n W p.2 cs m k b g') h h') from H 0 (by omega) W p.1 g h2 (by omega) ((lx_ad e1.1).trans (lx_ad e2.1)) e2.2 G2 gW
    refine down_ind W ?_ ?_
    · intro m b g' h3 hm e3 S3 G3 gW3
      have m0 : m = 0 := by omega
      subst m0
      refine s_Re_rowLine_26 ?_
      rw [G3.w, gW3, if_pos (by rw [decide_eq_true_eq, kI_le (by omega) (by omega) (by omega) (by omega)]; omega), kd_36 S3.R.F]
      exact ⟨rfl, rfl, e3, S3, G3⟩
    · intro k hk ih m b g' h3 hm e3 S3 G3 gW3
      have F3 := S3.R.F
      obtain ⟨m', em⟩ : ∃ m', m = m' + 1 := ⟨m - 1, by omega⟩
      subst em
      refine s_Re_rowLine_26 ?_
      rw [G3.w, gW3, if_neg (by rw [decide_eq_true_eq, kI_le (by omega) (by omega) (by omega) (by omega)]; omega), kd_36 F3, kI_add, kI_add, show ((W * p.2 : Nat) : Int) + (k : Int) = ((W * p.2 + k : Nat) : Int) by omega, ix_kI (by omega), rlF]
      refine ⟨rfl, rfl, ?_⟩
      cases hu : tkF tp n 0 8 b with
      | error x =>
        refine GI.use (Re_number_n (lo := 0) (hi := 8) S3 (by omega) (by omega) hu) (by omega) (fun h4 e4 => ?_)
        have F4 := e4.2.R.F
        have w4 : ivA h4 36 6 = kI W := by rw [(G3.re (re_of' e4.1)).w, gW3]
        rw [kd_36 F4, rv_36_1 F4, kd_40 F4, ln_40 F4, if_neg (by rw [decide_eq_true_eq, kI_le (by omega) (by omega) (by omega) (by omega)]; omega)]
        refine ⟨rfl, rfl, rfl, rfl, inB_kI (by omega) (by omega), ?_⟩
        exact Re_rowLine_26b (by omega) W12 (k + 1) (by omega) _ (lx_st (e3.trans (lx_rf e4.1)) (by omega) _) (e4.2.fe (F1_st h4 40 (W * p.2 + k) _) (fun x k z => by omega)) (by rw [iv_stI, if_neg (by omega)]; exact w4)
      | ok q =>
        refine GI.use (Re_number_y (lo := 0) (hi := 8) S3 (by omega) (by omega) hu) (by omega) (fun h4 e4 => ?_)
        have F4 := e4.2.R.F
        have G4 := G3.fa e4.1
        rw [kd_36 F4, rv_36_1 F4, kd_40 F4, ln_40 F4, if_neg (by rw [decide_eq_true_eq, kI_le (by omega) (by omega) (by omega) (by omega)]; omega)]
        refine ⟨rfl, rfl, rfl, rfl, inB_kI (by omega) (by omega), ?_⟩
        have G5 := G4.kst (j := W * p.2 + k) (by omega) (q.2 : Nat)
        rw [show 10 + (W * p.2 + k) = 10 + W * p.2 + k by omega] at G5
        refine ih m' q.1 _ _ (by omega) (lx_st (e3.trans (lx_ad e4.1)) (by omega) _) (e4.2.fe (F1_st h4 40 (W * p.2 + k) _) (fun x k z => by omega)) G5 ?_
        rw [upG_ne (by omega)]
        exact gW3
/-! a hand -/
theorem XG.hst {g : LG} {h : AH} (G : XG g h) {H : Nat} : XG (upG g 3 (H + 1 : Int)) (stI h 36 7 (kI ((H : Int) + 1))) := by
  have o : ∀ y k, (y ≠ 36 ∨ k ≠ 7) → ivA (stI h 36 7 (kI ((H : Int) + 1))) y k = ivA h y k := fun y k hy => by rw [iv_stI, if_neg (by omega)]
  refine ⟨by rw [o _ _ (by omega), upG_ne (by omega)]; exact G.r, by rw [o _ _ (by omega), upG_ne (by omega)]; exact G.w, by rw [iv_stI, if_pos ⟨rfl, rfl⟩, upG_eq], by rw [o _ _ (by omega), upG_ne (by omega)]; exact G.ln, fun k hk => by rw [o _ _ (by omega), upG_ne (by omega)]; exact G.kd k hk, ?_⟩
  obtain ⟨v, X⟩ := G.st
  rw [gY_up (by omega)]
  exact ⟨v, X.fr (F1_st h 36 7 _) (fun k => by omega)⟩
theorem XG.sth {g : LG} {h h' : AH} (G : XG g h) (e : FZ 42 h h') {H x : Nat} (hH : H < 4) {v : Int} (X : XP (dHab (gY g) H x) v 42 h') : XG (upG g (25 + H) (x : Nat)) h' := by
  have o : ∀ y k, y < 42 → ivA h' y k = ivA h y k := fun y k hy => e.2.2.2.2.2.1 y k (by omega)
  rw [gY_hab hH] at X
  exact ⟨by rw [o _ _ (by omega), upG_ne (by omega)]; exact G.r, by rw [o _ _ (by omega), upG_ne (by omega)]; exact G.w, by rw [o _ _ (by omega), upG_ne (by omega)]; exact G.hh, by rw [o _ _ (by omega), upG_ne (by omega)]; exact G.ln, fun k hk => by rw [o _ _ (by omega), upG_ne (by omega)]; exact G.kd k hk, v, X⟩
theorem lx_z {h h' : AH} (e : FZ 42 h h') : FLx h h' := e.mono (fun x k z => by omega) (fun _ _ z => z)
theorem Re_handLine_g {tp : Nat → Nat} {n a : Nat} {g : LG} {cs : List Nat} {h : AH} (S : RdL tp n a h) (G : XG g h) {H : Nat} (gH : g 3 = H) (h4 : H ≤ 4) (ka : tKd tp n a = 2) : GV 3 m_Re_handLine [.ref 36] h (XLo tp n (hanF tp n a g cs) h) := by
  have F := S.R.F
  have an := kd_n (tp := tp) (n := n) (a := a) (by omega)
  have n9 := S.R.le
  have nb := nxA_b (tp := tp) an
  refine GVo (s_Re_handLine_0 ?_)
  unfold hanF
  rw [kd_36 F, rv_36_0 F, kd_37 F, G.hh, gH]
  refine ⟨rfl, ?_⟩
  by_cases q4 : H = 4
  · rw [if_neg (by rw [q4]; decide), if_pos (by omega)]
    have e4 : fkF tp n a 4 = 4 := by unfold fkF; rw [if_neg (by omega)]
    refine ⟨rfl, GV.use (Re_refuse_g S (k := 4) (by omega) (by omega)) (by omega) (fun h1 e1 => ?_)⟩
    rw [e4] at e1
    exact ⟨rfl, lx_rf e1.1, e1.2⟩
  · rw [if_pos (by rw [decide_eq_true_eq, kI_lt (by omega) (by omega) (by omega) (by omega)]; omega), if_neg (by omega), Int.toNat_natCast]
    refine ⟨rfl, rfl, GV.use (Re_adv S an) (by omega) (fun h1 e1 => ?_)⟩
    have s81b : ∀ (r : Nat × Nat) h2, FLx h h2 → RdB tp n r h2 → Safe 2 m_Re_handLine (81, [.ref 36, unV], [], h2) (fun v h' => Eqv v none ∧ XLo tp n (.error r) h h') := fun r h2 e2 B => by
      refine s_Re_handLine_81 ?_
      rw [kd_36 B.R.F]
      exact ⟨rfl, rfl, rfl, lx_st e2 (by omega) _, B.fe (F1_st h2 36 7 _) (fun x k z => by omega)⟩
    suffices H' : ∀ f b g' i h2, n - b + 1 ≤ f → i ≤ b → FLx h h2 → RdL tp n b h2 → XG g' h2 → g' 3 = H → Safe 2 m_Re_handLine (23, [.ref 36, .int (kI (i : Nat))], [], h2) (fun v h' => Eqv v none ∧ XLo tp n (hbF tp n H cs f b g') h h') by
      exact H' (n + 1) (nxA tp n a) g 0 h1 (by omega) (by omega) (lx_ad e1.1) e1.2 (G.fa e1.1) gH
    intro f
    induction f with
    | zero => intro b g' i h2 hf; omega
    | succ f ih =>
      intro b g' i h2 hf ib e2 S2 G2 gH2
      have F2 := S2.R.F
      have bn := S2.an
      have e203 : ((!decide (kI (cdX tp n b : Nat) = kI 203)) = true) ↔ tKd tp n b ≠ 3 := cd_nn (k := 3) (c := 203) (by omega) (by decide) (by omega) rfl
      have fin : tKd tp n b ≠ 3 → Safe 2 m_Re_handLine (81, [.ref 36, unV], [], h2) (fun v h' => Eqv v none ∧ XLo tp n (hbF tp n H cs (f + 1) b g') h h') := fun z => by
        refine s_Re_handLine_81 ?_
        rw [kd_36 F2, G2.hh, gH2, kI_add, hbF, if_neg z]
        exact ⟨rfl, rfl, rfl, lx_st e2 (by omega) _, S2.fe (F1_st h2 36 7 _) (fun x k z => by omega), G2.hst⟩
      refine s_Re_handLine_23 ?_
      rw [if_neg S2.nz, rv_36_0 F2, kd_36 F2, kd_37 F2, S2.K.c]
      by_cases z : tKd tp n b = 3
      · have b1 := kd_n (tp := tp) (n := n) (a := b) (by omega)
        have nb2 := nxA_b (tp := tp) b1
        rw [if_neg (by rw [decide_eq_true_eq, kI_le (by omega) (by omega) (by omega) (by omega)]; omega), if_neg (fun y => e203.mp y z), hbF, if_pos z]
        refine ⟨rfl, rfl, rfl, rfl, rfl, GV.use (Re_adv S2 b1) (by omega) (fun h3 e3 => ?_)⟩
        have F3 := e3.2.R.F
        have G3 := G2.fa e3.1
        rw [kd_36 F3, rv_36_13 F3, G3.hh, gH2]
        refine ⟨rfl, rfl, rfl, ?_⟩
        cases ht : tkF tp n 0 9 (nxA tp n b) with
        | error x =>
          refine GI.use (Re_number_n (lo := 0) (hi := 9) e3.2 (by omega) (by omega) ht) (by omega) (fun h4 e4 => ?_)
          have F4 := e4.2.R.F
          have G4 := G3.re (re_of' e4.1)
          obtain ⟨v, X⟩ := G4.st
          rw [kd_42 F4]
          refine ⟨rfl, GV.use (Pg_setHabit_g F4 (by unfold PG; omega) X (a := H) (n := 0) (by omega)) (by omega) (fun h5 e5 => ?_)⟩
          have B5 : RdB tp n x h5 := e4.2.fe e5.1 (fun x k z => by omega)
          have e5' : FLx h h5 := ((e2.trans (lx_ad e3.1)).trans (lx_rf e4.1)).trans (lx_z e5.1)
          refine s_Re_handLine_23 ?_
          rw [if_pos B5.nz.1, kd_36 B5.R.F]
          split
          · exact s81b x h5 e5' B5
          · exact ⟨rfl, s81b x h5 e5' B5⟩
        | ok p =>
          have t := tkF_ok (b := p.1) (v := p.2) ht
          refine GI.use (Re_number_y (lo := 0) (hi := 9) e3.2 (by omega) (by omega) ht) (by omega) (fun h4 e4 => ?_)
          have F4 := e4.2.R.F
          have G4 := G3.fa e4.1
          obtain ⟨v, X⟩ := G4.st
          rw [kd_42 F4]
          refine ⟨rfl, GV.use (Pg_setHabit_g F4 (by unfold PG; omega) X (a := H) (n := p.2) (by omega)) (by omega) (fun h5 e5 => ?_)⟩
          rw [kI_add]
          exact ih p.1 _ (i + 1) h5 (by omega) (by omega) (((e2.trans (lx_ad e3.1)).trans (lx_ad e4.1)).trans (lx_z e5.1)) (e4.2.fe e5.1 (fun x k z => by omega)) (G4.sth e5.1 (by omega) e5.2) (by rw [upG_ne (by omega)]; exact gH2)
      · rw [if_pos (e203.mpr z)]
        split
        · exact fin z
        · exact ⟨rfl, rfl, rfl, fin z⟩
/-! drawn, last -/
theorem gY_drw {g : LG} {D : Nat} : gY (upG g 22 (D : Nat)) = (D, (g 23).toNat, -1, fun k => if k < 4 then (g (25 + k)).toNat else 0) := by
  unfold gY
  rw [upG_eq, upG_ne (by omega), Int.toNat_natCast]
  congr 1
  congr 1
  congr 1
  funext k
  by_cases q2 : k < 4
  · rw [if_pos q2, if_pos q2, upG_ne (by omega)]
  · rw [if_neg q2, if_neg q2]
theorem gY_lst {g : LG} {l : Nat} : gY (upG g 23 (l : Nat)) = ((g 22).toNat, l, -1, fun k => if k < 4 then (g (25 + k)).toNat else 0) := by
  unfold gY
  rw [upG_eq, upG_ne (by omega), Int.toNat_natCast]
  congr 1
  congr 1
  congr 1
  funext k
  by_cases q2 : k < 4
  · rw [if_pos q2, if_pos q2, upG_ne (by omega)]
  · rw [if_neg q2, if_neg q2]
theorem XG.dst {g : LG} {h : AH} (G : XG g h) (D : Nat) : XG (upG g 22 (D : Nat)) (stI h 42 0 (kI (D : Nat))) := by
  have o : ∀ y k, (y ≠ 42 ∨ k ≠ 0) → ivA (stI h 42 0 (kI (D : Nat))) y k = ivA h y k := fun y k hy => by rw [iv_stI, if_neg (by omega)]
  refine ⟨by rw [o _ _ (by omega), upG_ne (by omega)]; exact G.r, by rw [o _ _ (by omega), upG_ne (by omega)]; exact G.w, by rw [o _ _ (by omega), upG_ne (by omega)]; exact G.hh, by rw [o _ _ (by omega), upG_ne (by omega)]; exact G.ln, fun k hk => by rw [o _ _ (by omega), upG_ne (by omega)]; exact G.kd k hk, ?_⟩
  obtain ⟨v, X⟩ := G.st
  rw [gY_drw]
  exact ⟨v, by rw [iv_stI, if_pos ⟨rfl, rfl⟩]; rfl, by rw [o _ _ (by omega)]; exact X.i1, by rw [o _ _ (by omega)]; exact X.i2, by rw [o _ _ (by omega)]; exact X.i3, fun k hk => by rw [o _ _ (by omega)]; exact X.b k hk⟩
theorem XG.lst {g : LG} {h : AH} (G : XG g h) {l : Nat} (hl : l < 12) : XG (upG g 23 (l : Nat)) (stI h 42 1 (kI (l : Nat))) := by
  have o : ∀ y k, (y ≠ 42 ∨ k ≠ 1) → ivA (stI h 42 1 (kI (l : Nat))) y k = ivA h y k := fun y k hy => by rw [iv_stI, if_neg (by omega)]
  refine ⟨by rw [o _ _ (by omega), upG_ne (by omega)]; exact G.r, by rw [o _ _ (by omega), upG_ne (by omega)]; exact G.w, by rw [o _ _ (by omega), upG_ne (by omega)]; exact G.hh, by rw [o _ _ (by omega), upG_ne (by omega)]; exact G.ln, fun k hk => by rw [o _ _ (by omega), upG_ne (by omega)]; exact G.kd k hk, ?_⟩
  obtain ⟨v, X⟩ := G.st
  rw [gY_lst]
  refine ⟨v, by rw [o _ _ (by omega)]; exact X.i0, ?_, by rw [o _ _ (by omega)]; exact X.i2, by rw [o _ _ (by omega)]; exact X.i3, fun k hk => by rw [o _ _ (by omega)]; exact X.b k hk⟩
  rw [iv_stI, if_pos ⟨rfl, rfl⟩]
  show kI (l : Int) = kI (lx l)
  unfold lx
  rw [if_neg (by omega)]
theorem Re_drawnLine_g {tp : Nat → Nat} {n a : Nat} {g : LG} {cs : List Nat} {h : AH} (S : RdL tp n a h) (G : XG g h) {R W D : Nat} (gR : g 1 = R) (gW : g 2 = W) (gD : g 22 = D) (r1 : 1 ≤ R) (w1 : 1 ≤ W) (rw12 : R * W ≤ 12) (an : a < n) : ∃ c : Nat, c < 12 ∧ GI 3 m_Re_drawnLine [.ref 36] h (kI c) (XLo tp n (drwF tp n false a g cs) h) ∧ drwF tp n true a g cs = (match drwF tp n false a g cs with | .ok q => .ok (q.1, upG q.2.1 23 (c : Nat), q.2.2) | .error e => .error e) := by
  have F := S.R.F
  have n1 : 1 ≤ R * W := Nat.mul_pos r1 w1
  unfold drwF
  rw [gR, gW, gD, Int.toNat_natCast, Int.toNat_natCast, Int.toNat_natCast]
  cases ht : tkF tp n 0 (R * W - 1) (nxA tp n a) with
  | error x =>
    refine ⟨0, by omega, GIo (s_Re_drawnLine_0 ?_), rfl⟩
    rw [rv_36_0 F, kd_36 F, kd_37 F]
    refine ⟨rfl, rfl, GV.use (Re_adv S an) (by omega) (fun h1 e1 => ?_)⟩
    have F1' := e1.2.R.F
    have G1 := G.fa e1.1
    rw [kd_36 F1', G1.r, G1.w, gR, gW, kI_mul, kI_sub, show (R : Int) * (W : Int) - 1 = ((R * W - 1 : Nat) : Int) by rw [← Int.natCast_mul]; omega]
    refine ⟨rfl, rfl, rfl, GI.use (Re_number_n (lo := 0) (hi := R * W - 1) e1.2 (by omega) (by omega) ht) (by omega) (fun h2 e2 => ?_)⟩
    have F2 := e2.2.R.F
    rw [kd_36 F2, rv_36_13 F2, kd_42 F2]
    exact ⟨rfl, rfl, rfl, rfl, lx_st ((lx_ad e1.1).trans (lx_rf e2.1)) (by omega) _, e2.2.fe (F1_st h2 42 0 _) (fun x k z => by omega)⟩
  | ok p =>
    have t := tkF_ok (b := p.1) (v := p.2) ht
    refine ⟨p.2, by omega, GIo (s_Re_drawnLine_0 ?_), ?_⟩
    · rw [rv_36_0 F, kd_36 F, kd_37 F]
      refine ⟨rfl, rfl, GV.use (Re_adv S an) (by omega) (fun h1 e1 => ?_)⟩
      have F1' := e1.2.R.F
      have G1 := G.fa e1.1
      rw [kd_36 F1', G1.r, G1.w, gR, gW, kI_mul, kI_sub, show (R : Int) * (W : Int) - 1 = ((R * W - 1 : Nat) : Int) by rw [← Int.natCast_mul]; omega]
      refine ⟨rfl, rfl, rfl, GI.use (Re_number_y (lo := 0) (hi := R * W - 1) e1.2 (by omega) (by omega) ht) (by omega) (fun h2 e2 => ?_)⟩
      have F2 := e2.2.R.F
      have G2 := G1.fa e2.1
      obtain ⟨v, X⟩ := G2.st
      have eD : ivA h2 42 0 = kI (D : Nat) := by rw [X.i0]; show kI ((g 22).toNat : Nat) = _; rw [gD, Int.toNat_natCast]
      rw [kd_36 F2, rv_36_13 F2, kd_42 F2, eD, kI_shl1 (by omega), kI_or]
      refine ⟨rfl, rfl, rfl, rfl, lx_st ((lx_ad e1.1).trans (lx_ad e2.1)) (by omega) _, e2.2.fe (F1_st h2 42 0 _) (fun x k z => by omega), ?_⟩
      exact G2.dst _
    · rfl
