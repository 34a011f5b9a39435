/-! a text cut into tokens -/
def tps (tp : Nat → Nat) (n : Nat) : Nat → Nat
  | 0 => tAt tp n 0
  | i + 1 => nxA tp n (tps tp n i)
abbrev FTo (h h' : AH) : Prop := Fr (fun x k => x = 38 ∨ x = 39 ∨ (x = 37 ∧ 2 ≤ k)) JM h h'
theorem XR.fr {tp : Nat → Nat} {n : Nat} {I J : Nat → Nat → Prop} {h h' : AH} (R : XR tp n h) (e : Fr I J h h') (hi : ∀ x k, I x k → x < 1000000 ∧ x ≠ 2) : XR tp n h' := ⟨e.fix R.F, R.O.fr e (fun x k z => (hi x k z).1), R.le, fun k hk => by rw [e.2.2.2.2.2.1 2 k (fun z => (hi 2 k z).2 rfl)]; exact R.v k hk, R.b⟩
def TArr (tp : Nat → Nat) (n m : Nat) (h : AH) : Prop := ∀ i, i < m → ivA h 38 i = kI (cdX tp n (tps tp n i) : Nat) ∧ ivA h 39 i = kI (tps tp n i : Nat)
theorem To_append_g {m c p : Nat} {h : AH} (F : Fix h) (hm : m < 901) (i2 : ivA h 37 2 = kI m) : GV 1 m_To_append [.ref 37, .int (kI c), .int (kI p)] h (fun h' => h' = stI (stI (stI h 38 m (kI c)) 39 m (kI p)) 37 2 (kI (m + 1 : Nat))) := by
  refine GVo (s_To_append_0 ?_)
  have e : ∀ x k, ivA (stI h 38 x k) 37 2 = kI m := fun x k => by rw [iv_stI, if_neg (by omega)]; exact i2
  have e2 : ∀ x k y z, ivA (stI (stI h 38 x k) 39 y z) 37 2 = kI m := fun x k y z => by rw [iv_stI, if_neg (by omega)]; exact e x k
  have r0 : ∀ x k y, rvA (stI h 38 x k) 37 y = rvA h 37 y := fun _ _ _ => rfl
  rw [rv_37_0 F, i2, ix_kI (by omega)]
  simp only [e, e2, kd_stI, ln_stI, r0, rv_37_1 F, kd_37 F, kd_38 F, kd_39 F, ln_38 F, ln_39 F, ix_kI (show ((m : Nat) : Int) ≤ 2147483647 by omega), kI_add]
  rw [if_neg (by rw [decide_eq_true_eq, kI_le (by omega) (by omega) (by omega) (by omega)]; omega)]
  exact ⟨rfl, rfl, rfl, rfl, rfl, rfl, inB_kI (by omega) (by omega), rfl, rfl, rfl, inB_kI (by omega) (by omega), rfl, rfl, rfl, rfl⟩
theorem app38 (h : AH) (m : Nat) (x y z : Int32) (j : Nat) : ivA (stI (stI (stI h 38 m x) 39 m y) 37 2 z) 38 j = if j = m then x else ivA h 38 j := by
  rw [iv_stI, if_neg (by omega), iv_stI, if_neg (by omega), iv_stI]
  by_cases q : j = m
  · rw [if_pos ⟨rfl, q⟩, if_pos q]
  · rw [if_neg (by omega), if_neg q]
theorem app39 (h : AH) (m : Nat) (x y z : Int32) (j : Nat) : ivA (stI (stI (stI h 38 m x) 39 m y) 37 2 z) 39 j = if j = m then y else ivA h 39 j := by
  rw [iv_stI, if_neg (by omega), iv_stI]
  by_cases q : j = m
  · rw [if_pos ⟨rfl, q⟩, if_pos q]
  · rw [if_neg (by omega), if_neg q, iv_stI, if_neg (by omega)]
theorem tAt_blank {tp : Nat → Nat} {n b : Nat} (h : b < n) (q : bkB (tp b) = true) : tAt tp n b = tAt tp n (b + 1) := by
  unfold tAt
  rw [run_s ⟨h, q⟩]
theorem tAt_here {tp : Nat → Nat} {n b : Nat} (q : ¬ (b < n ∧ bkB (tp b) = true)) : tAt tp n b = b := by
  unfold tAt
  rw [run_e q]
/-- the tokens as they lie: m of them, then the end -/
def TkA (tp : Nat → Nat) (n m : Nat) (h : AH) : Prop := (m ≤ 900) ∧ (ivA h 37 2 = kI (m + 1 : Nat)) ∧ (tps tp n m = n) ∧ (∀ i, i < m → tps tp n i < n) ∧ (TArr tp n (m + 1) h)
theorem TkA.m9 {tp : Nat → Nat} {n m : Nat} {h : AH} (C : TkA tp n m h) : m ≤ 900 := C.1
theorem TkA.i2 {tp : Nat → Nat} {n m : Nat} {h : AH} (C : TkA tp n m h) : ivA h 37 2 = kI (m + 1 : Nat) := C.2.1
theorem TkA.en {tp : Nat → Nat} {n m : Nat} {h : AH} (C : TkA tp n m h) : tps tp n m = n := C.2.2.1
theorem TkA.lt {tp : Nat → Nat} {n m : Nat} {h : AH} (C : TkA tp n m h) : ∀ i, i < m → tps tp n i < n := C.2.2.2.1
theorem TkA.ar {tp : Nat → Nat} {n m : Nat} {h : AH} (C : TkA tp n m h) : TArr tp n (m + 1) h := C.2.2.2.2
def TkS (tp : Nat → Nat) (n a : Nat) (h : AH) : Prop := (ivA h 37 4 = kI (cdX tp n a : Nat)) ∧ (ivA h 37 5 = kI a) ∧ (∃ m i, i ≤ m ∧ TkA tp n m h ∧ tps tp n i = a ∧ ivA h 37 3 = kI (i : Nat))
theorem TkS.c {tp : Nat → Nat} {n a : Nat} {h : AH} (C : TkS tp n a h) : ivA h 37 4 = kI (cdX tp n a : Nat) := C.1
theorem TkS.p {tp : Nat → Nat} {n a : Nat} {h : AH} (C : TkS tp n a h) : ivA h 37 5 = kI a := C.2.1
theorem TkS.x {tp : Nat → Nat} {n a : Nat} {h : AH} (C : TkS tp n a h) : ∃ m i, i ≤ m ∧ TkA tp n m h ∧ tps tp n i = a ∧ ivA h 37 3 = kI (i : Nat) := C.2.2
theorem To_open_g {tp : Nat → Nat} {n : Nat} {h : AH} (R : XR tp n h) : GV 8 m_To_open [.ref 37, .ref 2, .int (kI n)] h (fun h' => FTo h h' ∧ TkS tp n (tAt tp n 0) h') := by
  have le := R.le
  have F := R.F
  have up : ∀ {h2 x k v}, FTo h h2 → (x = 38 ∨ x = 39 ∨ (x = 37 ∧ 2 ≤ k)) → FTo h (stI h2 x k v) := fun e hk => e.stI hk _
  refine GVo (s_To_open_0 ?_)
  rw [kd_2 F, kd_37 F, ln_2 F]
  refine ⟨rfl, rfl, ?_⟩
  have c1 : (if kI ((900 : Nat) : Int) < kI (n : Int) then kI ((900 : Nat) : Int) else kI (n : Int)) = kI n := by
    rw [if_neg (by rw [kI_lt (by omega) (by omega) (by omega) (by omega)]; omega)]
  rw [c1]
  have c2 : (if kI 0 < kI (n : Int) then kI (n : Int) else kI 0) = kI n := by
    by_cases q : 0 < n
    · rw [if_pos (by rw [kI_lt (by omega) (by omega) (by omega) (by omega)]; omega)]
    · rw [if_neg (by rw [kI_lt (by omega) (by omega) (by omega) (by omega)]; omega)]
      congr 1
      omega
  rw [c2]
  suffices H : ∀ f b m i h2, n - b ≤ f → b ≤ n → m ≤ b → i ≤ b → FTo h h2 → ivA h2 37 2 = kI m → tps tp n m = tAt tp n b → (∀ j, j < m → tps tp n j < n) → TArr tp n m h2 → Safe 7 m_To_open (22, [.ref 37, .ref 2, unV, .int (kI n), .int (kI b), .int (kI i), unV], [], h2) (fun v h' => Eqv v none ∧ FTo h h' ∧ TkS tp n (tAt tp n 0) h') by
    exact H n 0 0 0 _ (by omega) (by omega) (by omega) (by omega) (up (Fr_rfl _ _ _) (by omega)) (by rw [iv_stI, if_pos ⟨rfl, rfl⟩]; rfl) rfl (fun j hj => by omega) (fun j hj => by omega)
  intro f
  induction f with
  | zero =>
    intro b m i h2 hf bn mb ib e2 j2 tm lt A
    have R2 := R.fr e2 (fun x k z => by omega)
    have F2 := R2.F
    have b_n : b = n := by omega
    subst b_n
    refine s_To_open_22 ?_
    have s93 : Safe 7 m_To_open (93, [.ref 37, unV, unV, .int (kI b), unV, unV, unV], [], h2) (fun v h' => Eqv v none ∧ FTo h h' ∧ TkS tp b (tAt tp b 0) h') := by
      refine s_To_open_93 ?_
      rw [kd_37 F2]
      refine ⟨rfl, ?_⟩
      refine GV.use (To_append_g (c := 0) F2 (by omega) j2) (by omega) (fun h3 e3 => ?_)
      have e3' : FTo h h3 := by rw [e3]; exact up (up (up e2 (by omega)) (by omega)) (by omega)
      have F3 := (R.fr e3' (fun x k z => by omega)).F
      have tn : tps tp b m = b := by rw [tm, tAt_here (by omega)]
      have A3 : TArr tp b (m + 1) h3 := fun j hj => by
        rw [e3, app38, app39]
        by_cases z : j = m
        · subst z
          rw [if_pos rfl, if_pos rfl, tn]
          have k24 : tKd tp b b = 24 := by unfold tKd; rw [if_pos (by omega)]
          unfold cdX
          rw [k24]
          exact ⟨rfl, rfl⟩
        · rw [if_neg z, if_neg z]
          exact A j (by omega)
      have k2 : ivA h3 37 2 = kI (m + 1 : Nat) := by rw [e3, iv_stI, if_pos ⟨rfl, rfl⟩]
      have a0 := A3 0 (by omega)
      have fz : ix (kI 0) = 0 := rfl
      have r0 : ∀ x k v y, rvA (stI h3 x k v) 37 y = rvA h3 37 y := fun _ _ _ _ => rfl
      have r1 : ∀ x k v x' k' v' y, rvA (stI (stI h3 x k v) x' k' v') 37 y = rvA h3 37 y := fun _ _ _ _ _ _ _ => rfl
      simp only [r0, r1, kd_stI, ln_stI, rv_37_0 F3, rv_37_1 F3, kd_37 F3, kd_38 F3, kd_39 F3, ln_38 F3, ln_39 F3, fz]
      have v38 : ivA (stI h3 37 3 (kI 0)) 38 0 = kI (cdX tp b (tAt tp b 0) : Nat) := by rw [iv_stI, if_neg (by omega)]; exact a0.1
      have v39 : ∀ z, ivA (stI (stI h3 37 3 (kI 0)) 37 4 z) 39 0 = kI (tAt tp b 0 : Nat) := fun z => by rw [iv_stI, if_neg (by omega), iv_stI, if_neg (by omega)]; exact a0.2
      rw [v38, v39]
      refine ⟨rfl, rfl, rfl, rfl, rfl, rfl, rfl, rfl, rfl, rfl, up (up (up e3' (by omega)) (by omega)) (by omega), ?_⟩
      have iv37 : ∀ k, k < 3 → ivA (stI (stI (stI h3 37 3 (kI 0)) 37 4 (kI (cdX tp b (tAt tp b 0) : Nat))) 37 5 (kI (tAt tp b 0 : Nat))) 37 k = ivA h3 37 k := fun k hk => by rw [iv_stI, if_neg (by omega), iv_stI, if_neg (by omega), iv_stI, if_neg (by omega)]
      have ivo : ∀ x k, x ≠ 37 → ivA (stI (stI (stI h3 37 3 (kI 0)) 37 4 (kI (cdX tp b (tAt tp b 0) : Nat))) 37 5 (kI (tAt tp b 0 : Nat))) x k = ivA h3 x k := fun x k hx => by rw [iv_stI, if_neg (by omega), iv_stI, if_neg (by omega), iv_stI, if_neg (by omega)]
      refine ⟨by rw [iv_stI, if_neg (by omega), iv_stI, if_pos ⟨rfl, rfl⟩], by rw [iv_stI, if_pos ⟨rfl, rfl⟩], m, 0, by omega, ⟨by omega, by rw [iv37 2 (by omega)]; exact k2, tn, lt, fun j hj => by rw [ivo _ _ (by omega), ivo _ _ (by omega)]; exact A3 j hj⟩, rfl, by rw [iv_stI, if_neg (by omega), iv_stI, if_neg (by omega), iv_stI, if_pos ⟨rfl, rfl⟩]; rfl⟩
    rw [if_pos (show decide (kI (b : Int) ≤ kI (b : Int)) = true by rw [decide_eq_true_eq, kI_le (by omega) (by omega) (by omega) (by omega)]; omega), ite_self]
    exact s93
  | succ f ih =>
    intro b m i h2 hf bn mb ib e2 j2 tm lt A
    by_cases bn' : b = n
    · exact ih b m i h2 (by omega) bn mb ib e2 j2 tm lt A
    have b1 : b < n := by omega
    have R2 := R.fr e2 (fun x k z => by omega)
    have F2 := R2.F
    have bb := R.b b b1
    have sbb := sc_b bb
    refine s_To_open_22 ?_
    rw [if_neg (by rw [decide_eq_true_eq, kI_le (by omega) (by omega) (by omega) (by omega)]; omega), if_neg (by rw [decide_eq_true_eq, kI_le (by omega) (by omega) (by omega) (by omega)]; omega), kd_2 F2, ln_2 F2, ix_kI (by omega), R2.v b b1]
    refine ⟨rfl, inB_kI (by omega) (by omega), ?_⟩
    have s54 : bkB (tp b) = true → Safe 7 m_To_open (54, [.ref 37, .ref 2, unV, .int (kI n), .int (kI b), .int (kI i), unV], [], h2) (fun v h' => Eqv v none ∧ FTo h h' ∧ TkS tp n (tAt tp n 0) h') := fun q => by
      refine s_To_open_54 ?_
      rw [kI_add, kI_add]
      exact ih (b + 1) m (i + 1) h2 (by omega) (by omega) (by omega) (by omega) e2 j2 (by rw [tm, tAt_blank b1 q]) lt A
    have s10 : sb (tp b) = 10 ↔ tp b = 10 := by unfold sb; split <;> omega
    have s32 : sb (tp b) = 32 ↔ tp b = 32 := by unfold sb; split <;> omega
    by_cases q1 : tp b = 10
    · rw [if_pos (by rw [decide_eq_true_eq, kI_inj (by omega) (by omega) (by omega) (by omega)]; exact s10.mpr q1)]
      exact s54 (by unfold bkB; rw [decide_eq_true_eq]; exact Or.inl q1)
    · rw [if_neg (by rw [decide_eq_true_eq, kI_inj (by omega) (by omega) (by omega) (by omega)]; exact fun z => q1 (s10.mp z))]
      refine ⟨rfl, inB_kI (by omega) (by omega), ?_⟩
      by_cases q2 : tp b = 32
      · rw [if_neg (by rw [s32.mpr q2]; decide)]
        exact s54 (by unfold bkB; rw [decide_eq_true_eq]; exact Or.inr q2)
      · rw [if_pos (by rw [Bool.not_eq_true', decide_eq_false_iff_not, kI_inj (by omega) (by omega) (by omega) (by omega)]; exact fun z => q2 (s32.mp z)), To_tokenEnd_c R2 b1 (by omega), To_codeOf_c R2 b1 (by omega), kd_37 F2]
        refine ⟨rfl, ?_⟩
        have tb := tEn_b (tp := tp) b1
        have nb : ¬ (b < n ∧ bkB (tp b) = true) := by
          rintro ⟨_, z⟩
          unfold bkB at z
          rw [decide_eq_true_eq] at z
          omega
        have tm' : tps tp n m = b := by rw [tm, tAt_here nb]
        refine GV.use (To_append_g F2 (by omega) j2) (by omega) (fun h3 e3 => ?_)
        rw [kI_add]
        refine ih (tEn tp n b) (m + 1) (i + 1) h3 (by omega) tb.2 (by omega) (by omega) (by rw [e3]; exact up (up (up e2 (by omega)) (by omega)) (by omega)) (by rw [e3, iv_stI, if_pos ⟨rfl, rfl⟩]) ?_ (fun j hj => ?_) (fun j hj => ?_)
        · show nxA tp n (tps tp n m) = _
          rw [tm']
          rfl
        · by_cases z : j = m
          · rw [z, tm']; exact b1
          · exact lt j (by omega)
        · rw [e3, app38, app39]
          by_cases z : j = m
          · subst z
            rw [if_pos rfl, if_pos rfl, tm']
            exact ⟨rfl, rfl⟩
          · rw [if_neg z, if_neg z]
            exact A j (by omega)
abbrev FAd (h h' : AH) : Prop := Fr (fun x k => x = 37 ∧ 3 ≤ k) JM h h'
/-- the tokens' places are in order -/
def TkW (h : AH) : Prop := ∃ m i : Nat, i < m ∧ m ≤ 901 ∧ ivA h 37 2 = kI m ∧ ivA h 37 3 = kI i
theorem TkS.w {tp : Nat → Nat} {n a : Nat} {h : AH} (S : TkS tp n a h) : TkW h := by
  obtain ⟨m, i, hi, A, _, e3⟩ := S.x
  have := A.m9
  exact ⟨m + 1, i, by omega, by omega, A.i2, e3⟩
theorem To_advance_r {h : AH} (F : Fix h) {m i : Nat} (im : i + 1 < m) (m9 : m ≤ 901) (i2 : ivA h 37 2 = kI m) (i3 : ivA h 37 3 = kI i) : GV 1 m_To_advance [.ref 37] h (fun h' => h' = stI (stI (stI h 37 3 (kI (i + 1 : Nat))) 37 4 (ivA h 38 (i + 1))) 37 5 (ivA h 39 (i + 1))) := by
  refine GVo (s_To_advance_0 ?_)
  have j3 : ∀ x, ivA (stI h 37 3 x) 37 3 = x := fun x => by rw [iv_stI, if_pos ⟨rfl, rfl⟩]
  have j3' : ∀ x y, ivA (stI (stI h 37 3 x) 37 4 y) 37 3 = x := fun x y => by rw [iv_stI, if_neg (by omega), iv_stI, if_pos ⟨rfl, rfl⟩]
  have r0 : ∀ x k v y, rvA (stI h x k v) 37 y = rvA h 37 y := fun _ _ _ _ => rfl
  have r1 : ∀ x k v x' k' v' y, rvA (stI (stI h x k v) x' k' v') 37 y = rvA h 37 y := fun _ _ _ _ _ _ _ => rfl
  have v38 : ∀ x k, ivA (stI h 37 3 x) 38 k = ivA h 38 k := fun x k => by rw [iv_stI, if_neg (by omega)]
  have v39 : ∀ x y k, ivA (stI (stI h 37 3 x) 37 4 y) 39 k = ivA h 39 k := fun x y k => by rw [iv_stI, if_neg (by omega), iv_stI, if_neg (by omega)]
  have ek : kI (i : Int) + kI 1 = kI ((i + 1 : Nat) : Int) := by rw [kI_add]; rfl
  rw [i2, i3, ek]
  rw [if_neg (by rw [decide_eq_true_eq, kI_le (by omega) (by omega) (by omega) (by omega)]; omega)]
  simp only [j3, j3', r0, r1, v38, v39, kd_stI, ln_stI, rv_37_0 F, rv_37_1 F, kd_37 F, kd_38 F, kd_39 F, ln_38 F, ln_39 F, ix_kI (show ((i + 1 : Nat) : Int) ≤ 2147483647 by omega)]
  refine ⟨rfl, rfl, rfl, rfl, rfl, rfl, rfl, inB_kI (by omega) (by omega), rfl, rfl, rfl, rfl, inB_kI (by omega) (by omega), rfl, rfl, trivial⟩
theorem To_advance_s {h : AH} (F : Fix h) {m i : Nat} (im : m ≤ i + 1) (im2 : i < m) (m9 : m ≤ 901) (i2 : ivA h 37 2 = kI m) (i3 : ivA h 37 3 = kI i) : GV 1 m_To_advance [.ref 37] h (fun h' => h' = h) := by
  refine GVo (s_To_advance_0 ?_)
  rw [i2, i3, kI_add, if_pos (by rw [decide_eq_true_eq, kI_le (by omega) (by omega) (by omega) (by omega)]; omega), kd_37 F]
  exact ⟨rfl, rfl, rfl, rfl⟩
theorem To_advance_w {h : AH} (F : Fix h) (W : TkW h) : GV 1 m_To_advance [.ref 37] h (fun h' => FAd h h' ∧ TkW h') := by
  obtain ⟨m, i, im, m9, i2, i3⟩ := W
  by_cases q : i + 1 < m
  · obtain ⟨h', hr, e⟩ := To_advance_r F q m9 i2 i3
    refine ⟨h', hr, ?_, m, i + 1, q, m9, ?_, ?_⟩
    · rw [e]
      exact (((Fr_rfl (fun x k => x = 37 ∧ 3 ≤ k) JM h).stI (by omega) _).stI (by omega) _).stI (by omega) _
    · rw [e, iv_stI, if_neg (by omega), iv_stI, if_neg (by omega), iv_stI, if_neg (by omega)]; exact i2
    · rw [e, iv_stI, if_neg (by omega), iv_stI, if_neg (by omega), iv_stI, if_pos ⟨rfl, rfl⟩]
  · obtain ⟨h', hr, e⟩ := To_advance_s F (by omega) im m9 i2 i3
    rw [e] at hr
    exact ⟨h, hr, Fr_rfl _ _ _, m, i, im, m9, i2, i3⟩
theorem To_advance_g {tp : Nat → Nat} {n a : Nat} {h : AH} (F : Fix h) (S : TkS tp n a h) (an : a < n) : GV 1 m_To_advance [.ref 37] h (fun h' => FAd h h' ∧ TkS tp n (nxA tp n a) h') := by
  obtain ⟨m, i, im, A, ea, i3⟩ := S.x
  have m9 := A.m9
  have q : i < m := by
    by_cases z : i = m
    · have := A.en
      rw [← z, ea] at this
      omega
    · omega
  obtain ⟨h', hr, e⟩ := To_advance_r F (m := m + 1) (by omega) (by omega) A.i2 i3
  have ar := A.ar (i + 1) (by omega)
  have et : tps tp n (i + 1) = nxA tp n a := by show nxA tp n (tps tp n i) = _; rw [ea]
  rw [et] at ar
  refine ⟨h', hr, ?_, ⟨?_, ?_, m, i + 1, by omega, ⟨m9, ?_, A.en, A.lt, fun j hj => ?_⟩, et, ?_⟩⟩
  · rw [e]
    exact (((Fr_rfl (fun x k => x = 37 ∧ 3 ≤ k) JM h).stI (by omega) _).stI (by omega) _).stI (by omega) _
  · rw [e, iv_stI, if_neg (by omega), iv_stI, if_pos ⟨rfl, rfl⟩]; exact ar.1
  · rw [e, iv_stI, if_pos ⟨rfl, rfl⟩]; exact ar.2
  · rw [e, iv_stI, if_neg (by omega), iv_stI, if_neg (by omega), iv_stI, if_neg (by omega)]; exact A.i2
  · rw [e, iv_stI, if_neg (by omega), iv_stI, if_neg (by omega), iv_stI, if_neg (by omega), iv_stI, if_neg (by omega), iv_stI, if_neg (by omega), iv_stI, if_neg (by omega)]; exact A.ar j hj
  · rw [e, iv_stI, if_neg (by omega), iv_stI, if_neg (by omega), iv_stI, if_pos ⟨rfl, rfl⟩]
