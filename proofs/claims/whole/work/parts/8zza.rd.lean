/-! the class's reader: where it stands -/
def RdL (tp : Nat → Nat) (n a : Nat) (h : AH) : Prop := (XR tp n h) ∧ (TkS tp n a h) ∧ (a ≤ n) ∧ (ivA h 36 11 = kI 0) ∧ (ivA h 36 12 = kI (-1)) ∧ (∃ k : Nat, k ≤ 900 ∧ ivA h 36 3 = kI k)
theorem RdL.R {tp : Nat → Nat} {n a : Nat} {h : AH} (C : RdL tp n a h) : XR tp n h := C.1
theorem RdL.K {tp : Nat → Nat} {n a : Nat} {h : AH} (C : RdL tp n a h) : TkS tp n a h := C.2.1
theorem RdL.an {tp : Nat → Nat} {n a : Nat} {h : AH} (C : RdL tp n a h) : a ≤ n := C.2.2.1
theorem RdL.f {tp : Nat → Nat} {n a : Nat} {h : AH} (C : RdL tp n a h) : ivA h 36 11 = kI 0 := C.2.2.2.1
theorem RdL.p {tp : Nat → Nat} {n a : Nat} {h : AH} (C : RdL tp n a h) : ivA h 36 12 = kI (-1) := C.2.2.2.2.1
theorem RdL.z {tp : Nat → Nat} {n a : Nat} {h : AH} (C : RdL tp n a h) : ∃ k : Nat, k ≤ 900 ∧ ivA h 36 3 = kI k := C.2.2.2.2.2
def RdC (law : Nat) (cs : List Nat) (h : AH) : Prop := (ivA h 36 4 = kI (if law = 0 then 1 else 0)) ∧ (ivA h 36 3 = kI (cs.length : Nat)) ∧ (∀ k, k < cs.length → ivA h 41 k = kI (xc (cs.getD k 0) : Nat))
theorem RdC.my {law : Nat} {cs : List Nat} {h : AH} (C : RdC law cs h) : ivA h 36 4 = kI (if law = 0 then 1 else 0) := C.1
theorem RdC.sz {law : Nat} {cs : List Nat} {h : AH} (C : RdC law cs h) : ivA h 36 3 = kI (cs.length : Nat) := C.2.1
theorem RdC.cd {law : Nat} {cs : List Nat} {h : AH} (C : RdC law cs h) : ∀ k, k < cs.length → ivA h 41 k = kI (xc (cs.getD k 0) : Nat) := C.2.2
def RdS (tp : Nat → Nat) (n law a : Nat) (cs : List Nat) (h : AH) : Prop := RdL tp n a h ∧ RdC law cs h
/-- a fault is kept -/
def RdB (tp : Nat → Nat) (n : Nat) (r : Nat × Nat) (h : AH) : Prop := (XR tp n h) ∧ (TkW h) ∧ (1 ≤ r.1 ∧ r.1 ≤ 4) ∧ (ivA h 36 11 = kI (r.1 : Nat)) ∧ (ivA h 36 12 = kI (r.2 : Nat)) ∧ (∃ k : Nat, k ≤ 900 ∧ ivA h 36 3 = kI k)
theorem RdB.R {tp : Nat → Nat} {n : Nat} {r : Nat × Nat} {h : AH} (C : RdB tp n r h) : XR tp n h := C.1
theorem RdB.W {tp : Nat → Nat} {n : Nat} {r : Nat × Nat} {h : AH} (C : RdB tp n r h) : TkW h := C.2.1
theorem RdB.r1 {tp : Nat → Nat} {n : Nat} {r : Nat × Nat} {h : AH} (C : RdB tp n r h) : 1 ≤ r.1 ∧ r.1 ≤ 4 := C.2.2.1
theorem RdB.f {tp : Nat → Nat} {n : Nat} {r : Nat × Nat} {h : AH} (C : RdB tp n r h) : ivA h 36 11 = kI (r.1 : Nat) := C.2.2.2.1
theorem RdB.p {tp : Nat → Nat} {n : Nat} {r : Nat × Nat} {h : AH} (C : RdB tp n r h) : ivA h 36 12 = kI (r.2 : Nat) := C.2.2.2.2.1
theorem RdB.z {tp : Nat → Nat} {n : Nat} {r : Nat × Nat} {h : AH} (C : RdB tp n r h) : ∃ k : Nat, k ≤ 900 ∧ ivA h 36 3 = kI k := C.2.2.2.2.2
abbrev FRe (h h' : AH) : Prop := Fr (fun x k => (x = 36 ∧ (k = 3 ∨ k = 11 ∨ k = 12)) ∨ (x = 37 ∧ 3 ≤ k) ∨ x = 41) JM h h'
theorem re_of {h h' : AH} (e : FAd h h') : FRe h h' := e.mono (fun x k z => by omega) (fun _ _ z => z)
theorem RdB.nz {tp : Nat → Nat} {n : Nat} {r : Nat × Nat} {h : AH} (B : RdB tp n r h) : (!decide (ivA h 36 11 = 0)) = true ∧ ¬ decide (ivA h 36 11 = 0) = true := by
  have r1 := B.r1
  have : ¬ ivA h 36 11 = 0 := by rw [B.f, z0, kI_inj (by omega) (by omega) (by omega) (by omega)]; omega
  simp [this]
theorem RdL.nz {tp : Nat → Nat} {n a : Nat} {h : AH} (S : RdL tp n a h) : ¬ (!decide (ivA h 36 11 = 0)) = true := by
  rw [S.f]
  decide
theorem RdC.fa {law : Nat} {cs : List Nat} {h h' : AH} (C : RdC law cs h) (e : FAd h h') : RdC law cs h' := ⟨by rw [e.2.2.2.2.2.1 36 4 (by omega)]; exact C.my, by rw [e.2.2.2.2.2.1 36 3 (by omega)]; exact C.sz, fun k hk => by rw [e.2.2.2.2.2.1 41 k (by omega)]; exact C.cd k hk⟩
theorem Re_adv {tp : Nat → Nat} {n a : Nat} {h : AH} (S : RdL tp n a h) (an : a < n) : GV 1 m_To_advance [.ref 37] h (fun h' => FAd h h' ∧ RdL tp n (nxA tp n a) h') := by
  obtain ⟨h', hr, e, K⟩ := To_advance_g S.R.F S.K an
  refine ⟨h', hr, e, S.R.fr e (fun x k z => by omega), K, (nxA_b an).2, by rw [e.2.2.2.2.2.1 36 11 (by omega)]; exact S.f, by rw [e.2.2.2.2.2.1 36 12 (by omega)]; exact S.p, ?_⟩
  rw [e.2.2.2.2.2.1 36 3 (by omega)]
  exact S.z
theorem Re_adv_b {tp : Nat → Nat} {n : Nat} {r : Nat × Nat} {h : AH} (B : RdB tp n r h) : GV 1 m_To_advance [.ref 37] h (fun h' => FAd h h' ∧ RdB tp n r h') := by
  obtain ⟨h', hr, e, K⟩ := To_advance_w B.R.F B.W
  refine ⟨h', hr, e, B.R.fr e (fun x k z => by omega), K, B.r1, by rw [e.2.2.2.2.2.1 36 11 (by omega)]; exact B.f, by rw [e.2.2.2.2.2.1 36 12 (by omega)]; exact B.p, ?_⟩
  rw [e.2.2.2.2.2.1 36 3 (by omega)]
  exact B.z
theorem Re_refuse_b {tp : Nat → Nat} {n d : Nat} {r : Nat × Nat} {h : AH} (B : RdB tp n r h) {k : Int32} (hd : 1 ≤ d) {K : AH → Prop} : CallV d m_Re_refuse [.ref 36, .int k] h K ↔ K h := by
  refine Ret.V (d := 1) (ret_of (s_Re_refuse_0 ?_)) hd
  rw [kd_36 B.R.F, if_pos B.nz.1]
  exact ⟨rfl, rfl, rfl⟩
abbrev FRf (h h' : AH) : Prop := Fr (fun x k => x = 36 ∧ (k = 11 ∨ k = 12)) JM h h'
theorem re_of' {h h' : AH} (e : FRf h h') : FRe h h' := e.mono (fun x k z => by omega) (fun _ _ z => z)
theorem Re_refuse_g {tp : Nat → Nat} {n a : Nat} {h : AH} (S : RdL tp n a h) {k : Nat} (k1 : 2 ≤ k) (k4 : k ≤ 4) : GV 1 m_Re_refuse [.ref 36, .int (kI k)] h (fun h' => FRf h h' ∧ RdB tp n (fkF tp n a k, a) h') := by
  have F := S.R.F
  have le := S.R.le
  have an := S.an
  have cb := cdX_b (tp := tp) (n := n) (a := a)
  have e25 : cdX tp n a = 1 ↔ tKd tp n a = 25 := cdX_iff (k := 25) (by omega) (by decide) (by omega)
  have fin : ∀ w : Nat, 1 ≤ w → w ≤ 4 → fkF tp n a k = w → Safe 0 m_Re_refuse (24, [.ref 36, unV], [.int (kI w), .ref 36], h) (fun v h' => Eqv v none ∧ FRf h h' ∧ RdB tp n (fkF tp n a k, a) h') := fun w w1 w4 ew => by
    refine s_Re_refuse_24 ?_
    have r0 : rvA (stI h 36 11 (kI w)) 36 0 = 37 := rv_36_0 F
    have v5 : ivA (stI h 36 11 (kI w)) 37 5 = kI a := by rw [iv_stI, if_neg (by omega)]; exact S.K.p
    simp only [r0, v5, kd_stI, kd_36 F, kd_37 F]
    have e : FRf h (stI (stI h 36 11 (kI w)) 36 12 (kI a)) := ((Fr_rfl (fun x k => x = 36 ∧ (k = 11 ∨ k = 12)) JM h).stI (by omega) _).stI (by omega) _
    have W := S.K.w
    refine ⟨rfl, rfl, rfl, rfl, rfl, e, S.R.fr e (fun x k z => by omega), ?_, ?_, ?_, ?_, ?_⟩
    · obtain ⟨m, i, h1, h2, h3, h4⟩ := W
      exact ⟨m, i, h1, h2, by rw [e.2.2.2.2.2.1 37 2 (by omega)]; exact h3, by rw [e.2.2.2.2.2.1 37 3 (by omega)]; exact h4⟩
    · show 1 ≤ fkF tp n a k ∧ fkF tp n a k ≤ 4
      omega
    · rw [iv_stI, if_neg (by omega), iv_stI, if_pos ⟨rfl, rfl⟩, ew]
    · rw [iv_stI, if_pos ⟨rfl, rfl⟩]
    · rw [e.2.2.2.2.2.1 36 3 (by omega)]
      exact S.z
  refine GVo (s_Re_refuse_0 ?_)
  rw [if_neg S.nz, rv_36_0 F, kd_36 F, kd_37 F, S.K.c]
  refine ⟨rfl, rfl, rfl, ?_⟩
  by_cases q : tKd tp n a = 25
  · rw [if_neg (by rw [e25.mpr q]; decide)]
    exact fin 1 (by omega) (by omega) (by unfold fkF; rw [if_pos q])
  · rw [if_pos (by rw [Bool.not_eq_true', decide_eq_false_iff_not, kI_inj (by omega) (by omega) (by omega) (by omega)]; exact fun z => q (e25.mp (by omega)))]
    exact fin k (by omega) k4 (by unfold fkF; rw [if_neg q])
theorem Re_expect_b {tp : Nat → Nat} {n d : Nat} {r : Nat × Nat} {h : AH} (B : RdB tp n r h) {k : Int32} (hd : 2 ≤ d) {K : AH → Prop} : CallV d m_Re_expect [.ref 36, .int k] h K ↔ K h := by
  refine Ret.V (d := 2) (ret_of (s_Re_expect_0 ?_)) hd
  rw [kd_36 B.R.F, if_pos B.nz.1]
  refine ⟨rfl, s_Re_expect_28 ?_⟩
  rw [kd_36 B.R.F, Re_refuse_b B (by omega)]
  exact ⟨rfl, rfl, rfl⟩
theorem cd_ne {tp : Nat → Nat} {n a k c : Nat} (hk : k < 42) (v : vkB k = true) (h : k ≠ 23) (ec : cdT k 0 = c) : (decide (kI (cdX tp n a : Nat) = kI (c : Nat)) = true) ↔ tKd tp n a = k := by
  have b := cdX_b (tp := tp) (n := n) (a := a)
  have l := cdT_lt k hk h
  rw [decide_eq_true_eq, kI_inj (by omega) (by omega) (by omega) (by omega), ← cdX_iff (tp := tp) (n := n) (a := a) hk v h, ec]
  omega
theorem cd_nn {tp : Nat → Nat} {n a k c : Nat} (hk : k < 42) (v : vkB k = true) (h : k ≠ 23) (ec : cdT k 0 = c) : ((!decide (kI (cdX tp n a : Nat) = kI (c : Nat))) = true) ↔ tKd tp n a ≠ k := by
  have := cd_ne (tp := tp) (n := n) (a := a) hk v h ec
  rw [Bool.not_eq_true', ← Bool.not_eq_true]
  exact not_congr this
theorem Re_expect_y {tp : Nat → Nat} {n a k c : Nat} {h : AH} (S : RdL tp n a h) (hk : k < 42) (v : vkB k = true) (k23 : k ≠ 23) (ec : cdT k 0 = c) (k24 : k ≠ 24) (e : tKd tp n a = k) : GV 2 m_Re_expect [.ref 36, .int (kI (c : Nat))] h (fun h' => FAd h h' ∧ RdL tp n (nxA tp n a) h') := by
  have F := S.R.F
  refine GVo (s_Re_expect_0 ?_)
  rw [kd_36 F, if_neg S.nz, rv_36_0 F, kd_37 F, S.K.c, if_neg (by rw [cd_nn hk v k23 ec]; exact fun z => z e)]
  refine ⟨rfl, rfl, rfl, rfl, rfl, ?_⟩
  exact GV.use (Re_adv S (kd_n (tp := tp) (n := n) (a := a) (by omega))) (by omega) (fun h' e => ⟨rfl, e⟩)
theorem Re_expect_n {tp : Nat → Nat} {n a k c : Nat} {h : AH} (S : RdL tp n a h) (hk : k < 42) (v : vkB k = true) (k23 : k ≠ 23) (ec : cdT k 0 = c) (e : tKd tp n a ≠ k) : GV 2 m_Re_expect [.ref 36, .int (kI (c : Nat))] h (fun h' => FRf h h' ∧ RdB tp n (fkF tp n a 2, a) h') := by
  have F := S.R.F
  refine GVo (s_Re_expect_0 ?_)
  rw [kd_36 F, if_neg S.nz, rv_36_0 F, kd_37 F, S.K.c, if_pos (by rw [cd_nn hk v k23 ec]; exact e)]
  refine ⟨rfl, rfl, rfl, s_Re_expect_28 ?_⟩
  rw [kd_36 F]
  exact ⟨rfl, GV.use (Re_refuse_g S (k := 2) (by omega) (by omega)) (by omega) (fun h' e => ⟨rfl, e⟩)⟩
theorem Re_emit_b {tp : Nat → Nat} {n : Nat} {r : Nat × Nat} {h : AH} (B : RdB tp n r h) (c : Int32) : GV 1 m_Re_emit [.ref 36, .int c] h (fun h' => FRe h h' ∧ RdB tp n r h') := by
  have F := B.R.F
  obtain ⟨k, k9, e3⟩ := B.z
  refine GVo (s_Re_emit_0 ?_)
  rw [rv_36_2 F, e3, ln_41 F, kd_36 F, kd_41 F, ix_kI (by omega)]
  refine ⟨rfl, rfl, rfl, ?_⟩
  by_cases q : 900 ≤ k
  · rw [if_pos (by rw [decide_eq_true_eq, kI_le (by omega) (by omega) (by omega) (by omega)]; omega)]
    exact ⟨rfl, Fr_rfl _ _ _, B⟩
  · rw [if_neg (by rw [decide_eq_true_eq, kI_le (by omega) (by omega) (by omega) (by omega)]; omega), kd_stI, kd_36 F, iv_stI, if_neg (show ¬ ((36 : Nat) = 41 ∧ 3 = k) by omega), e3, kI_add]
    have e : FRe h (stI (stI h 41 k c) 36 3 (kI ((k : Int) + 1))) := ((Fr_rfl (fun x k => (x = 36 ∧ (k = 3 ∨ k = 11 ∨ k = 12)) ∨ (x = 37 ∧ 3 ≤ k) ∨ x = 41) JM h).stI (by omega) _).stI (by omega) _
    refine ⟨rfl, rfl, rfl, inB_kI (by omega) (by omega), rfl, rfl, rfl, e, B.R.fr e (fun x k z => by omega), ?_, B.r1, ?_, ?_, k + 1, by omega, ?_⟩
    · obtain ⟨m, i, h1, h2, h3, h4⟩ := B.W
      exact ⟨m, i, h1, h2, by rw [e.2.2.2.2.2.1 37 2 (by omega)]; exact h3, by rw [iv_stI, if_neg (by omega), iv_stI, if_neg (by omega)]; exact h4⟩
    · rw [iv_stI, if_neg (by omega), iv_stI, if_neg (by omega)]; exact B.f
    · rw [iv_stI, if_neg (by omega), iv_stI, if_neg (by omega)]; exact B.p
    · rw [iv_stI, if_pos ⟨rfl, rfl⟩]; rfl
theorem Re_emit_g {tp : Nat → Nat} {n law a : Nat} {cs : List Nat} {h : AH} (S : RdS tp n law a cs h) (l9 : cs.length < 900) (c : Nat) : GV 1 m_Re_emit [.ref 36, .int (kI (xc c : Nat))] h (fun h' => FRe h h' ∧ RdS tp n law a (cs ++ [c]) h') := by
  obtain ⟨L, C⟩ := S
  have F := L.R.F
  refine GVo (s_Re_emit_0 ?_)
  rw [rv_36_2 F, C.sz, ln_41 F, kd_36 F, kd_41 F, ix_kI (by omega), if_neg (by rw [decide_eq_true_eq, kI_le (by omega) (by omega) (by omega) (by omega)]; omega), kd_stI, kd_36 F, iv_stI, if_neg (show ¬ ((36 : Nat) = 41 ∧ 3 = cs.length) by omega), C.sz, kI_add]
  have e : FRe h (stI (stI h 41 cs.length (kI (xc c : Nat))) 36 3 (kI ((cs.length : Int) + 1))) := ((Fr_rfl (fun x k => (x = 36 ∧ (k = 3 ∨ k = 11 ∨ k = 12)) ∨ (x = 37 ∧ 3 ≤ k) ∨ x = 41) JM h).stI (by omega) _).stI (by omega) _
  have o : ∀ x k, x ≠ 41 → (x ≠ 36 ∨ k ≠ 3) → ivA (stI (stI h 41 cs.length (kI (xc c : Nat))) 36 3 (kI ((cs.length : Int) + 1))) x k = ivA h x k := fun x k h1 h2 => by rw [iv_stI, if_neg (by omega), iv_stI, if_neg (by omega)]
  have l1 : (cs ++ [c]).length = cs.length + 1 := by rw [List.length_append]; rfl
  refine ⟨rfl, rfl, rfl, rfl, rfl, rfl, inB_kI (by omega) (by omega), rfl, rfl, rfl, e, ⟨L.R.fr e (fun x k z => by omega), ⟨?_, ?_, ?_⟩, L.an, ?_, ?_, cs.length + 1, by omega, ?_⟩, ?_, ?_, fun k hk => ?_⟩
  · rw [o _ _ (by omega) (by omega)]; exact L.K.c
  · rw [o _ _ (by omega) (by omega)]; exact L.K.p
  · obtain ⟨m, i, hi, A, ea, e3⟩ := L.K.x
    exact ⟨m, i, hi, ⟨A.m9, by rw [o _ _ (by omega) (by omega)]; exact A.i2, A.en, A.lt, fun j hj => by rw [o _ _ (by omega) (by omega), o _ _ (by omega) (by omega)]; exact A.ar j hj⟩, ea, by rw [o _ _ (by omega) (by omega)]; exact e3⟩
  · rw [o _ _ (by omega) (by omega)]; exact L.f
  · rw [o _ _ (by omega) (by omega)]; exact L.p
  · rw [iv_stI, if_pos ⟨rfl, rfl⟩]; rfl
  · rw [o _ _ (by omega) (by omega)]; exact C.my
  · rw [iv_stI, if_pos ⟨rfl, rfl⟩, l1]; rfl
  · rw [l1] at hk
    rw [iv_stI, if_neg (by omega), iv_stI]
    by_cases q : k = cs.length
    · rw [if_pos ⟨rfl, q⟩, q, List.getD_eq_getElem?_getD, List.getElem?_append_right (Nat.le_refl _), Nat.sub_self]
      rfl
    · rw [if_neg (by omega), List.getD_eq_getElem?_getD, List.getElem?_append_left (by omega), ← List.getD_eq_getElem?_getD]
      exact C.cd k (by omega)
theorem Re_mayNest_y {tp : Nat → Nat} {n a deep : Nat} {h : AH} (S : RdL tp n a h) (an : a < n) (hd : deep < 6) : GI 2 m_Re_mayNest [.ref 36, .int (kI deep)] h (kI 1) (fun h' => FAd h h' ∧ RdL tp n (nxA tp n a) h') := by
  have F := S.R.F
  refine GIo (s_Re_mayNest_0 ?_)
  rw [kd_36 F, if_neg S.nz, rv_36_0 F, kd_37 F, if_pos (by rw [decide_eq_true_eq, kI_lt (by omega) (by omega) (by omega) (by omega)]; omega)]
  exact ⟨rfl, rfl, rfl, GV.use (Re_adv S an) (by omega) (fun h' e => ⟨rfl, rfl, e⟩)⟩
theorem Re_mayNest_n {tp : Nat → Nat} {n a : Nat} {h : AH} (S : RdL tp n a h) (k25 : tKd tp n a ≠ 25) : GI 2 m_Re_mayNest [.ref 36, .int (kI (6 : Nat))] h (kI 0) (fun h' => FRf h h' ∧ RdB tp n (4, a) h') := by
  have F := S.R.F
  have e4 : fkF tp n a 4 = 4 := by unfold fkF; rw [if_neg k25]
  refine GIo (s_Re_mayNest_0 ?_)
  rw [kd_36 F, if_neg S.nz, if_neg (by decide)]
  refine ⟨rfl, s_Re_mayNest_13 ?_⟩
  rw [kd_36 F]
  refine ⟨rfl, GV.use (Re_refuse_g S (k := 4) (by omega) (by omega)) (by omega) (fun h' e => ⟨rfl, rfl, ?_⟩)⟩
  rw [e4] at e
  exact e
def fctF (law k : Nat) : Int := match wdO law k with
  | some w => ((1000 + w : Nat) : Int)
  | none => -1
theorem fct_t : ∀ k, k < 42 → vkB k = true → k ≠ 23 → ∀ c : Nat, c = cdT k 0 → fctF 0 k = (if c = 202 then 1004 else if c = 203 then 1005 else if c = 204 then -1 else if c = 205 then 1006 else if c = 206 then -1 else if c = 207 then -1 else if c = 208 then -1 else if c = 209 then -1 else if c = 210 then -1 else if c = 211 then 1000 else if c = 212 then 1001 else if c = 213 then 1002 else if c = 214 then 1003 else if c = 215 then 1007 else -1) ∧ fctF 1 k = (if c = 202 then -1 else if c = 203 then -1 else if c = 204 then -1 else if c = 205 then -1 else if c = 206 then -1 else if c = 207 then -1 else if c = 208 then -1 else if c = 209 then -1 else if c = 210 then -1 else if c = 211 then 1000 else if c = 212 then 1001 else if c = 213 then 1002 else if c = 214 then 1003 else if c = 215 then -1 else -1) := by
  intro k hk v h c hc
  subst hc
  revert k
  decide +kernel
theorem Re_fact_c {tp : Nat → Nat} {n a law d : Nat} {h : AH} (F : Fix h) (hl : law ≤ 1) (my : ivA h 36 4 = kI (if law = 0 then 1 else 0)) (k23 : tKd tp n a ≠ 23) (hd : 1 ≤ d) {K : Int32 → AH → Prop} : CallI d m_Re_fact [.ref 36, .int (kI (cdX tp n a : Nat))] h K ↔ K (kI (fctF law (tKd tp n a))) h := by
  refine Ret.I (d := 1) (ret_of (s_Re_fact_0 ?_)) hd
  have ec : cdX tp n a = cdT (tKd tp n a) 0 := by unfold cdX; exact cdT_0 k23 _
  have lt := cdT_lt _ (tKd_b tp n a) k23
  have T := fct_t _ (tKd_b tp n a) (tKd_v tp n a) k23 _ ec
  rw [my, kd_36 F]
  obtain ⟨c, hc⟩ : ∃ c, c = cdX tp n a := ⟨_, rfl⟩
  rw [← hc] at T ec ⊢
  rw [← ec] at lt
  have cmp : ∀ x : Nat, x < 1000 → (decide (kI (c : Nat) = kI (x : Nat)) = true ↔ c = x) := fun x hx => by
    rw [decide_eq_true_eq, kI_inj (by omega) (by omega) (by omega) (by omega)]
    omega
  have g : ∀ x y, (if decide (kI (if law = 0 then 1 else 0) = (0 : Int32)) = true then x else y) = if law = 0 then y else x := fun (x y : Prop) => by
    rcases (by omega : law = 0 ∨ law = 1) with z | z <;> subst z <;> rfl
  rw [show (202 : Int) = ((202 : Nat) : Int) from rfl, show (203 : Int) = ((203 : Nat) : Int) from rfl, show (204 : Int) = ((204 : Nat) : Int) from rfl, show (205 : Int) = ((205 : Nat) : Int) from rfl, show (206 : Int) = ((206 : Nat) : Int) from rfl, show (207 : Int) = ((207 : Nat) : Int) from rfl, show (208 : Int) = ((208 : Nat) : Int) from rfl, show (209 : Int) = ((209 : Nat) : Int) from rfl, show (210 : Int) = ((210 : Nat) : Int) from rfl, show (211 : Int) = ((211 : Nat) : Int) from rfl, show (212 : Int) = ((212 : Nat) : Int) from rfl, show (213 : Int) = ((213 : Nat) : Int) from rfl, show (214 : Int) = ((214 : Nat) : Int) from rfl, show (215 : Int) = ((215 : Nat) : Int) from rfl]
  simp only [cmp 202 (by omega), cmp 203 (by omega), cmp 204 (by omega), cmp 205 (by omega), cmp 206 (by omega), cmp 207 (by omega), cmp 208 (by omega), cmp 209 (by omega), cmp 210 (by omega), cmp 211 (by omega), cmp 212 (by omega), cmp 213 (by omega), cmp 214 (by omega), cmp 215 (by omega), g]
  rcases (by omega : law = 0 ∨ law = 1) with z | z
  · subst z
    rw [T.1]
    by_cases h202 : c = 202
    · rw [if_pos h202, if_pos h202]
      exact ⟨rfl, rfl, trivial⟩
    rw [if_neg h202, if_neg h202]
    by_cases h203 : c = 203
    · rw [if_pos h203, if_pos h203]
      exact ⟨rfl, rfl, trivial⟩
    rw [if_neg h203, if_neg h203]
    by_cases h204 : c = 204
    · rw [if_pos h204, if_pos h204]
      exact ⟨rfl, trivial⟩
    rw [if_neg h204, if_neg h204]
    by_cases h205 : c = 205
    · rw [if_pos h205, if_pos h205]
      exact ⟨rfl, rfl, trivial⟩
    rw [if_neg h205, if_neg h205]
    by_cases h206 : c = 206
    · rw [if_pos h206, if_pos h206]
      exact ⟨rfl, trivial⟩
    rw [if_neg h206, if_neg h206]
    by_cases h207 : c = 207
    · rw [if_pos h207, if_pos h207]
      exact ⟨rfl, trivial⟩
    rw [if_neg h207, if_neg h207]
    by_cases h208 : c = 208
    · rw [if_pos h208, if_pos h208]
      exact ⟨rfl, trivial⟩
    rw [if_neg h208, if_neg h208]
    by_cases h209 : c = 209
    · rw [if_pos h209, if_pos h209]
      exact ⟨rfl, trivial⟩
    rw [if_neg h209, if_neg h209]
    by_cases h210 : c = 210
    · rw [if_pos h210, if_pos h210]
      exact ⟨rfl, trivial⟩
    rw [if_neg h210, if_neg h210]
    by_cases h211 : c = 211
    · rw [if_pos h211, if_pos h211]
      exact ⟨rfl, trivial⟩
    rw [if_neg h211, if_neg h211]
    by_cases h212 : c = 212
    · rw [if_pos h212, if_pos h212]
      exact ⟨rfl, trivial⟩
    rw [if_neg h212, if_neg h212]
    by_cases h213 : c = 213
    · rw [if_pos h213, if_pos h213]
      exact ⟨rfl, trivial⟩
    rw [if_neg h213, if_neg h213]
    by_cases h214 : c = 214
    · rw [if_pos h214, if_pos h214]
      exact ⟨rfl, trivial⟩
    rw [if_neg h214, if_neg h214]
    by_cases h215 : c = 215
    · rw [if_pos h215, if_pos h215]
      exact ⟨rfl, rfl, trivial⟩
    rw [if_neg h215, if_neg h215]
    exact ⟨rfl, trivial⟩
  · subst z
    rw [T.2]
    by_cases h202 : c = 202
    · rw [if_pos h202, if_pos h202]
      exact ⟨rfl, rfl, trivial⟩
    rw [if_neg h202, if_neg h202]
    by_cases h203 : c = 203
    · rw [if_pos h203, if_pos h203]
      exact ⟨rfl, rfl, trivial⟩
    rw [if_neg h203, if_neg h203]
    by_cases h204 : c = 204
    · rw [if_pos h204, if_pos h204]
      exact ⟨rfl, trivial⟩
    rw [if_neg h204, if_neg h204]
    by_cases h205 : c = 205
    · rw [if_pos h205, if_pos h205]
      exact ⟨rfl, rfl, trivial⟩
    rw [if_neg h205, if_neg h205]
    by_cases h206 : c = 206
    · rw [if_pos h206, if_pos h206]
      exact ⟨rfl, trivial⟩
    rw [if_neg h206, if_neg h206]
    by_cases h207 : c = 207
    · rw [if_pos h207, if_pos h207]
      exact ⟨rfl, trivial⟩
    rw [if_neg h207, if_neg h207]
    by_cases h208 : c = 208
    · rw [if_pos h208, if_pos h208]
      exact ⟨rfl, trivial⟩
    rw [if_neg h208, if_neg h208]
    by_cases h209 : c = 209
    · rw [if_pos h209, if_pos h209]
      exact ⟨rfl, trivial⟩
    rw [if_neg h209, if_neg h209]
    by_cases h210 : c = 210
    · rw [if_pos h210, if_pos h210]
      exact ⟨rfl, trivial⟩
    rw [if_neg h210, if_neg h210]
    by_cases h211 : c = 211
    · rw [if_pos h211, if_pos h211]
      exact ⟨rfl, trivial⟩
    rw [if_neg h211, if_neg h211]
    by_cases h212 : c = 212
    · rw [if_pos h212, if_pos h212]
      exact ⟨rfl, trivial⟩
    rw [if_neg h212, if_neg h212]
    by_cases h213 : c = 213
    · rw [if_pos h213, if_pos h213]
      exact ⟨rfl, trivial⟩
    rw [if_neg h213, if_neg h213]
    by_cases h214 : c = 214
    · rw [if_pos h214, if_pos h214]
      exact ⟨rfl, trivial⟩
    rw [if_neg h214, if_neg h214]
    by_cases h215 : c = 215
    · rw [if_pos h215, if_pos h215]
      exact ⟨rfl, rfl, trivial⟩
    rw [if_neg h215, if_neg h215]
    exact ⟨rfl, trivial⟩
