/-! numbers within bounds, and the lines of a text: rows -/
def tkF (tp : Nat → Nat) (n lo hi a : Nat) : Except (Nat × Nat) (Nat × Nat) := if tKd tp n a = 23 then (if lo ≤ tNm tp n a ∧ tNm tp n a ≤ hi then .ok (nxA tp n a, tNm tp n a) else .error (3, a)) else .error (fkF tp n a 2, a)
theorem kd23 {tp : Nat → Nat} {n a : Nat} (h : tKd tp n a = 23) : a < n ∧ dgB (tp a) = true ∧ ¬ smB (tp a) = true ∧ tEn tp n a - a ≤ 3 := by
  have an := kd_n (tp := tp) (n := n) (a := a) (by omega)
  unfold tKd at h
  rw [if_neg (by omega)] at h
  by_cases q : smB (tp a) = true
  · exfalso
    rw [if_pos q] at h
    have kb : ∀ (w : List Nat) (l : List (List Nat)) (j : Nat), kyH w l j = 22 ∨ kyH w l j < j + l.length := by
      intro w l
      induction l with
      | nil => intro j; exact Or.inl rfl
      | cons x r ih =>
        intro j
        show (if x = w then j else kyH w r (j + 1)) = 22 ∨ (if x = w then j else kyH w r (j + 1)) < j + (r.length + 1)
        have := ih (j + 1)
        split <;> omega
    have := kb (wdL tp a (tEn tp n a)) keyL 0
    have l16 : keyL.length = 16 := rfl
    unfold keyF at h
    omega
  · rw [if_neg q] at h
    by_cases q2 : dgB (tp a) = true
    · rw [if_pos q2] at h
      by_cases q3 : tEn tp n a - a ≤ 3
      · exact ⟨an, q2, q, q3⟩
      · rw [if_neg q3] at h
        omega
    · exfalso
      rw [if_neg q2] at h
      have := sgG_b (tp a) 12
      omega
theorem tNm_b {tp : Nat → Nat} {n a : Nat} (h : tKd tp n a = 23) : tNm tp n a < 1000 := by
  obtain ⟨an, q1, q2, q3⟩ := kd23 h
  have sp := run_spec (p := fun k => dgB (tp k)) (n := n) n a (by omega) (by omega)
  have eE : tEn tp n a = run (fun k => dgB (tp k)) n a := by unfold tEn; rw [if_neg (by omega), if_neg q2, if_pos q1]
  rw [← eE] at sp
  have := nmF_lt (tp := tp) (a := a) (tEn tp n a - a) q3 (fun i hi => (sp.2.2.1 (a + i) (by omega) (by omega)).2)
  have p : 10 ^ (tEn tp n a - a) ≤ 10 ^ 3 := Nat.pow_le_pow_right (by omega) q3
  have p3 : (10 : Nat) ^ 3 = 1000 := rfl
  unfold tNm
  omega
theorem M_takes_y {tp : Nat → Nat} {n law a : Nat} {cs : List Nat} {h : AH} (S : MS tp n law a cs h) {lo hi b v : Nat} (l1 : hi < 10000) (l2 : lo < 10000) (e : tkF tp n lo hi a = .ok (b, v)) : GI 7 m_M_takes [.ref 88, .int (kI lo), .int (kI hi)] h (kI v) (fun h' => FRd h h' ∧ MS tp n law b cs h') ∧ b = nxA tp n a ∧ a < b ∧ b ≤ n ∧ lo ≤ v ∧ v ≤ hi := by
  unfold tkF at e
  by_cases q : tKd tp n a = 23
  · rw [if_pos q] at e
    by_cases q2 : lo ≤ tNm tp n a ∧ tNm tp n a ≤ hi
    · rw [if_pos q2] at e
      injection e with e
      injection e with e1 e2
      subst e1 e2
      have nb := nxA_b (tp := tp) (kd_n (tp := tp) (n := n) (a := a) (by omega))
      have tb := tNm_b q
      refine ⟨?_, rfl, nb.1, nb.2, q2.1, q2.2⟩
      refine GIo (s_M_takes_0 ?_)
      rw [kd_88 S.F]
      refine ⟨rfl, (M_is_c S (k := 23) (by omega) (by omega)).mpr ?_⟩
      rw [if_pos (by rw [Bool.not_eq_true', decide_eq_false_iff_not, bI_0]; exact fun y => y q), kd_88 S.F, S.i10 q, kI_long (by omega) (by omega), kI_long (by omega) (by omega), kI_long (by omega) (by omega), M_within_c (by omega) (by omega) (by omega) (by omega) (by omega) (by omega) (by omega), if_pos (by rw [Bool.not_eq_true', decide_eq_false_iff_not, bI_0]; exact fun y => y (by omega))]
      refine ⟨rfl, ?_⟩
      refine s_M_takes_37 ?_
      rw [kd_88 S.F, S.i11, if_neg (by decide), S.i10 q]
      refine ⟨rfl, rfl, rfl, ?_⟩
      exact GV.use (M_nextS S) (by omega) (fun h' e => ⟨rfl, e⟩)
    · rw [if_neg q2] at e
      cases e
  · rw [if_neg q] at e
    cases e
theorem M_takes_37d {h : AH} (B : MBd h) {d : Nat} {Q : Option Value → AH → Prop} (q : Q (some (.int (ivA h 88 10))) h) : Safe d m_M_takes (37, [.ref 88, unV, unV, unV], [], h) Q := by
  refine s_M_takes_37 ?_
  rw [kd_88 B.1, if_pos B.nz.1]
  exact ⟨rfl, rfl, q⟩
theorem M_takes_d {h : AH} (B : MBd h) {d : Nat} {l u : Int32} (hd : 2 ≤ d) {K : Int32 → AH → Prop} : CallI d m_M_takes [.ref 88, .int l, .int u] h K ↔ K (ivA h 88 10) h := by
  refine Ret.I (d := 2) (ret_of (s_M_takes_0 ?_)) hd
  rw [kd_88 B.1, M_is_d B (by omega), if_neg (by decide), kd_88 B.1, M_fails_d B (by omega)]
  exact ⟨rfl, rfl, M_takes_37d B ⟨rfl, rfl⟩⟩
theorem M_takes_n {tp : Nat → Nat} {n law a : Nat} {cs : List Nat} {h : AH} (S : MS tp n law a cs h) {lo hi : Nat} {r : Nat × Nat} (l1 : hi < 10000) (l2 : lo < 10000) (e : tkF tp n lo hi a = .error r) : ∃ x, GI 7 m_M_takes [.ref 88, .int (kI lo), .int (kI hi)] h x (fun h' => FRd h h' ∧ MBd h' ∧ ivA h' 88 11 = kI (r.1 : Nat) ∧ ivA h' 88 12 = kI (r.2 : Nat)) := by
  unfold tkF at e
  by_cases q : tKd tp n a = 23
  · rw [if_pos q] at e
    by_cases q2 : lo ≤ tNm tp n a ∧ tNm tp n a ≤ hi
    · rw [if_pos q2] at e
      cases e
    · rw [if_neg q2] at e
      injection e with e
      subst e
      have tb := tNm_b q
      obtain ⟨h1, hr, e1, B, e2, e3⟩ := M_fails_g S (k := 3) (by omega) (by omega)
      have fe : fkF tp n a 3 = 3 := by unfold fkF; rw [if_neg (by omega)]
      rw [fe] at e2
      refine ⟨ivA h1 88 10, GIo (s_M_takes_0 ?_)⟩
      rw [kd_88 S.F]
      refine ⟨rfl, (M_is_c S (k := 23) (by omega) (by omega)).mpr ?_⟩
      rw [if_pos (by rw [Bool.not_eq_true', decide_eq_false_iff_not, bI_0]; exact fun y => y q), kd_88 S.F, S.i10 q, kI_long (by omega) (by omega), kI_long (by omega) (by omega), kI_long (by omega) (by omega), M_within_c (by omega) (by omega) (by omega) (by omega) (by omega) (by omega) (by omega), if_neg (by rw [Bool.not_eq_true', decide_eq_false_iff_not, bI_0]; exact fun y => y (by omega)), kd_88 S.F]
      refine ⟨rfl, rfl, (Ret.V hr (by omega)).mpr ?_⟩
      exact M_takes_37d B ⟨rfl, e1, B, e2, e3⟩
  · rw [if_neg q] at e
    injection e with e
    subst e
    obtain ⟨h1, hr, e1, B, e2, e3⟩ := M_fails_g S (k := 2) (by omega) (by omega)
    refine ⟨ivA h1 88 10, GIo (s_M_takes_0 ?_)⟩
    rw [kd_88 S.F]
    refine ⟨rfl, (M_is_c S (k := 23) (by omega) (by omega)).mpr ?_⟩
    rw [if_neg (by rw [Bool.not_eq_true', decide_eq_false_iff_not, bI_0]; exact fun y => y q), kd_88 S.F]
    refine ⟨rfl, (Ret.V hr (by omega)).mpr ?_⟩
    exact M_takes_37d B ⟨rfl, e1, B, e2, e3⟩
/-! what a text has told so far: the first hundred numbers that the reference keeps -/
abbrev LG : Type := Nat → Int
def upG (g : LG) (k : Nat) (x : Int) : LG := fun j => if j = k then x else g j
abbrev LR : Type := Except (Nat × Nat) (Nat × LG × List Nat)
abbrev FLn (h h' : AH) : Prop := Fr (fun x k => (x = 88 ∧ (k = 6 ∨ k = 7 ∨ k = 9 ∨ k = 10 ∨ k = 11 ∨ k = 12 ∨ k = 15)) ∨ x = 92) JM h h'
def ML (tp : Nat → Nat) (n law a : Nat) (g : LG) (cs : List Nat) (h : AH) : Prop := MS tp n law a cs h ∧ ∀ k, k < 100 → ivA h 92 k = kI (g k)
theorem ln_of {h h' : AH} (e : FRd h h') : FLn h h' := e.mono (fun x k z => by omega) (fun _ _ z => z)
theorem ML.rd {tp : Nat → Nat} {n law law' a a' : Nat} {g : LG} {cs cs' : List Nat} {h h' : AH} (M : ML tp n law a g cs h) (e : FRd h h') (S : MS tp n law' a' cs' h') : ML tp n law' a' g cs' h' := ⟨S, fun k hk => by rw [e.2.2.2.2.2.1 92 k (by omega)]; exact M.2 k hk⟩
theorem ML.st {tp : Nat → Nat} {n law a : Nat} {g : LG} {cs : List Nat} {h : AH} (M : ML tp n law a g cs h) {k : Nat} (hk : k < 100) (x : Int) : ML tp n law a (upG g k x) cs (stI h 92 k (kI x)) ∧ FLn h (stI h 92 k (kI x)) := by
  have S := M.1
  have e : FLn h (stI h 92 k (kI x)) := (Fr_rfl (fun x k => (x = 88 ∧ (k = 6 ∨ k = 7 ∨ k = 9 ∨ k = 10 ∨ k = 11 ∨ k = 12 ∨ k = 15)) ∨ x = 92) JM h).stI (Or.inr rfl) _
  have i88 : ∀ j, ivA (stI h 92 k (kI x)) 88 j = ivA h 88 j := fun j => by rw [iv_stI, if_neg (by omega)]
  have i92 : ∀ j, j ≠ k → ivA (stI h 92 k (kI x)) 92 j = ivA h 92 j := fun j hj => by rw [iv_stI, if_neg (by omega)]
  refine ⟨⟨⟨e.fix S.F, S.O.fr e (fun x k z => by omega), S.R.fr e (by omega) (fun k => by omega), S.an, by rw [i88]; exact S.i6, by rw [i88]; exact S.i7, by rw [i88]; exact S.i9, fun z => by rw [i88]; exact S.i10 z, by rw [i88]; exact S.i11, by rw [i88]; exact S.i15, by rw [i92 _ (by omega)]; exact S.nc, fun j hj => by rw [i92 _ (by omega)]; exact S.cd j hj⟩, fun j hj => ?_⟩, e⟩
  unfold upG
  by_cases q : j = k
  · rw [if_pos q, q, iv_stI, if_pos ⟨rfl, rfl⟩]
  · rw [if_neg q, i92 j q]
    exact M.2 j hj
def MPl (tp : Nat → Nat) (n : Nat) (r : LR) (h h' : AH) : Prop := FLn h h' ∧ match r with
  | .ok q => ∃ law, law ≤ 4294967295 ∧ ML tp n law q.1 q.2.1 q.2.2 h'
  | .error e => MBd h' ∧ ivA h' 88 11 = kI (e.1 : Nat) ∧ ivA h' 88 12 = kI (e.2 : Nat)
def rlF (tp : Nat → Nat) (n W r : Nat) (cs : List Nat) : Nat → Nat → Nat → LG → LR
  | 0, _, a, g => .ok (a, g, cs)
  | m + 1, k, a, g => match tkF tp n 0 8 a with
    | .error e => .error e
    | .ok q => rlF tp n W r cs m (k + 1) q.1 (upG g (10 + W * r + k) q.2)
/-- a row line: its number, and a kind for each column -/
def rowF (tp : Nat → Nat) (n a : Nat) (g : LG) (cs : List Nat) : LR := match tkF tp n 0 ((g 1).toNat - 1) (nxA tp n a) with
  | .error e => .error e
  | .ok q => rlF tp n (g 2).toNat q.2 cs (g 2).toNat 0 q.1 g
theorem M_readRow_g {tp : Nat → Nat} {n law a : Nat} {g : LG} {cs : List Nat} {h : AH} (M : ML tp n law a g cs h) (hl : law ≤ 4294967295) {R W : Nat} (gR : g 1 = R) (gW : g 2 = W) (r1 : 1 ≤ R) (w1 : 1 ≤ W) (rw : R * W ≤ 12) : GV 8 m_M_readRow [.ref 88] h (MPl tp n (rowF tp n a g cs) h) := by
  have S := M.1
  have R12 : R ≤ 12 := Nat.le_trans (Nat.le_mul_of_pos_right R w1) rw
  have W12 : W ≤ 12 := Nat.le_trans (Nat.le_mul_of_pos_left W r1) rw
  have b1 : inB (kI 1) 1001 = true := inB_lit (by omega) (by omega) (by omega)
  have b2 : inB (kI 2) 1001 = true := inB_lit (by omega) (by omega) (by omega)
  have x1 : ix (kI 1) = 1 := ix_kI (n := 1) (by omega)
  have x2 : ix (kI 2) = 2 := ix_kI (n := 2) (by omega)
  refine GVo (s_M_readRow_0 ?_)
  rw [kd_88 S.F]
  refine ⟨rfl, ?_⟩
  refine GV.use (M_nextS S) (by omega) (fun h1 e1 => ?_)
  have M1 := M.rd e1.1 e1.2
  have S1 := e1.2
  have F1 := S1.F
  rw [kd_88 F1, rv_88_4 F1, kd_92 F1, ln_92 F1, x1, M1.2 1 (by omega), gR, kI_sub, b1, show ((R : Int) - 1) = ((R - 1 : Nat) : Int) by omega]
  refine ⟨rfl, rfl, rfl, rfl, ?_⟩
  have un : rowF tp n a g cs = match tkF tp n 0 (R - 1) (nxA tp n a) with
    | .error e => .error e
    | .ok q => rlF tp n W q.2 cs W 0 q.1 g := by
    unfold rowF
    rw [gR, gW, Int.toNat_natCast, Int.toNat_natCast]
  rw [un]
  cases ht : tkF tp n 0 (R - 1) (nxA tp n a) with
  | error e =>
    obtain ⟨x, hx⟩ := M_takes_n S1 (by omega) (by omega) ht
    refine GI.use hx (by omega) (fun h2 e2 => ?_)
    have B := e2.2.1
    refine s_M_readRow_20 ?_
    have F2 := B.1
    rw [kd_88 F2, rv_88_4 F2, kd_92 F2, ln_92 F2, b2, if_pos B.nz.1]
    have P : MPl tp n (.error e) h h2 := ⟨(ln_of (e1.1.trans e2.1)), e2.2⟩
    refine ⟨rfl, rfl, rfl, ?_⟩
    by_cases z : decide (ivA h2 92 (ix (kI 2)) ≤ kI 0) = true
    · rw [if_pos z]
      exact ⟨rfl, P⟩
    · rw [if_neg z]
      exact ⟨rfl, rfl, P⟩
  | ok q =>
    obtain ⟨hx, t1, t2, t3, t4, t5⟩ := M_takes_y S1 (by omega) (by omega) (b := q.1) (v := q.2) ht
    refine GI.use hx (by omega) (fun h2 e2 => ?_)
    have M2 := M1.rd e2.1 e2.2
    show Safe 7 m_M_readRow (20, [.ref 88, .int (kI (q.2 : Nat)), .int (kI 0)], [], h2) (fun v h' => Eqv v none ∧ MPl tp n (rlF tp n W q.2 cs W 0 q.1 g) h h')
    have idx : W * q.2 + W ≤ 12 := by
      have : W * (q.2 + 1) ≤ W * R := Nat.mul_le_mul_left W (by omega)
      rw [Nat.mul_add, Nat.mul_one, Nat.mul_comm W R] at this
      omega
    suffices H : ∀ m k b g' h3, m + k = W → FLn h h3 → ML tp n law b g' cs h3 → g' 2 = W → Safe 7 m_M_readRow (20, [.ref 88, .int (kI (q.2 : Nat)), .int (kI (k : Nat))], [], h3) (fun v h' => Eqv v none ∧ MPl tp n (rlF tp n W q.2 cs m k b g') h h') by
      exact H W 0 q.1 g h2 (by omega) (ln_of (e1.1.trans e2.1)) M2 gW
    intro m
    induction m with
    | zero =>
      intro k b g' h3 hk f3 M3 g2
      have F3 := M3.1.F
      refine s_M_readRow_20 ?_
      rw [kd_88 F3, rv_88_4 F3, kd_92 F3, ln_92 F3, b2, x2, M3.2 2 (by omega), g2, if_pos (by rw [decide_eq_true_eq, kI_le (by omega) (by omega) (by omega) (by omega)]; omega)]
      exact ⟨rfl, rfl, rfl, rfl, f3, law, hl, M3⟩
    | succ m ih =>
      intro k b g' h3 hk f3 M3 g2
      have S3 := M3.1
      have F3 := S3.F
      refine s_M_readRow_20 ?_
      rw [kd_88 F3, rv_88_4 F3, kd_92 F3, ln_92 F3, b2, x2, M3.2 2 (by omega), g2, if_neg (by rw [decide_eq_true_eq, kI_le (by omega) (by omega) (by omega) (by omega)]; omega), S3.i11, if_neg (by decide), kI_mul, kI_add, kI_add]
      refine ⟨rfl, rfl, rfl, rfl, rfl, rfl, rfl, rfl, rfl, ?_⟩
      have ei : ix (kI (10 + (W : Int) * (q.2 : Nat) + k)) = 10 + W * q.2 + k := by
        rw [show 10 + (W : Int) * (q.2 : Nat) + k = ((10 + W * q.2 + k : Nat) : Int) by push_cast; rfl]
        exact ix_kI (by omega)
      have eb : inB (kI (10 + (W : Int) * (q.2 : Nat) + k)) 1001 = true := by
        rw [show 10 + (W : Int) * (q.2 : Nat) + k = ((10 + W * q.2 + k : Nat) : Int) by push_cast; rfl]
        exact inB_kI (by omega) (by omega)
      show CallI _ _ _ _ _
      cases ht2 : tkF tp n 0 8 b with
      | error e =>
        have eP : rlF tp n W q.2 cs (m + 1) k b g' = .error e := by
          rw [rlF, ht2]
        rw [eP]
        obtain ⟨x, hx⟩ := M_takes_n S3 (lo := 0) (hi := 8) (by omega) (by omega) ht2
        refine GI.use hx (by omega) (fun h4 e4 => ?_)
        have B := e4.2.1
        have F4 := B.1
        rw [kd_92 F4, ln_92 F4, ei, eb]
        refine ⟨rfl, rfl, ?_⟩
        have f5 : FLn h4 (stI h4 92 (10 + W * q.2 + k) x) := (Fr_rfl (fun x k => (x = 88 ∧ (k = 6 ∨ k = 7 ∨ k = 9 ∨ k = 10 ∨ k = 11 ∨ k = 12 ∨ k = 15)) ∨ x = 92) JM h4).stI (Or.inr rfl) _
        have i88 : ∀ j, ivA (stI h4 92 (10 + W * q.2 + k) x) 88 j = ivA h4 88 j := fun j => by rw [iv_stI, if_neg (by omega)]
        obtain ⟨_, w', y1, y2, y3⟩ := B
        have B5 : MBd (stI h4 92 (10 + W * q.2 + k) x) := ⟨f5.fix F4, w', by rw [i88]; exact y1, y2, y3⟩
        have F5 := B5.1
        have P : MPl tp n (.error e) h (stI h4 92 (10 + W * q.2 + k) x) := ⟨f3.trans ((ln_of e4.1).trans f5), B5, by rw [i88]; exact e4.2.2.1, by rw [i88]; exact e4.2.2.2⟩
        refine s_M_readRow_20 ?_
        rw [kd_88 F5, rv_88_4 F5, kd_92 F5, ln_92 F5, b2, if_pos B5.nz.1]
        refine ⟨rfl, rfl, rfl, ?_⟩
        by_cases z : decide (ivA (stI h4 92 (10 + W * q.2 + k) x) 92 (ix (kI 2)) ≤ kI (k : Int) + kI 1) = true
        · rw [if_pos z]
          exact ⟨rfl, P⟩
        · rw [if_neg z]
          exact ⟨rfl, rfl, P⟩
      | ok p =>
        have eP : rlF tp n W q.2 cs (m + 1) k b g' = rlF tp n W q.2 cs m (k + 1) p.1 (upG g' (10 + W * q.2 + k) p.2) := by
          rw [rlF, ht2]
        rw [eP]
        obtain ⟨hx, u1, u2, u3, u4, u5⟩ := M_takes_y S3 (lo := 0) (hi := 8) (by omega) (by omega) (b := p.1) (v := p.2) ht2
        refine GI.use hx (by omega) (fun h4 e4 => ?_)
        have M4 := M3.rd e4.1 e4.2
        have F4 := M4.1.F
        rw [kd_92 F4, ln_92 F4, ei, eb, kI_add]
        refine ⟨rfl, rfl, ?_⟩
        have M5 := M4.st (k := 10 + W * q.2 + k) (by omega) (p.2 : Nat)
        exact ih (k + 1) p.1 _ _ (by omega) (f3.trans ((ln_of e4.1).trans M5.2)) M5.1 (by unfold upG; rw [if_neg (by omega)]; exact g2)
