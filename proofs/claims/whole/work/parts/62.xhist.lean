/-! the class's history -/
theorem rv15 {h : AH} (F : Fix h) {i : Nat} (hi : i < 10) : rvA h 15 i = 16 + 2 * i := by
  have e : i = 0 ∨ i = 1 ∨ i = 2 ∨ i = 3 ∨ i = 4 ∨ i = 5 ∨ i = 6 ∨ i = 7 ∨ i = 8 ∨ i = 9 := by omega
  rcases e with rfl | rfl | rfl | rfl | rfl | rfl | rfl | rfl | rfl | rfl
  · exact rv_15_0 F
  · exact rv_15_1 F
  · exact rv_15_2 F
  · exact rv_15_3 F
  · exact rv_15_4 F
  · exact rv_15_5 F
  · exact rv_15_6 F
  · exact rv_15_7 F
  · exact rv_15_8 F
  · exact rv_15_9 F
theorem PG.hist {i : Nat} (hi : i < 10) : PG (16 + 2 * i) := by unfold PG; omega
def XQ (y : DY) (pg : Nat) (h : AH) : Prop := ivA h pg 0 = kI (yD y) ∧ ivA h pg 1 = kI (lx (yL y)) ∧ ivA h pg 2 = kI (yX y) ∧ ∀ k, k < 4 → ivA h (pg + 1) k = kI (yB y k)
theorem XP.q {y : DY} {v : Int} {pg : Nat} {h : AH} (C : XP y v pg h) : XQ y pg h := ⟨C.i0, C.i1, C.i2, C.b⟩
theorem XQ.p {y : DY} {pg : Nat} {h : AH} (C : XQ y pg h) : XP y (ivA h pg 3).toInt pg h := ⟨C.1, C.2.1, C.2.2.1, kI_of _, C.2.2.2⟩
theorem XQ.fr {I J : Nat → Nat → Prop} {y : DY} {pg : Nat} {h h' : AH} (C : XQ y pg h) (e : Fr I J h h') (hi : ∀ k, ¬ I pg k ∧ ¬ I (pg + 1) k) : XQ y pg h' := (C.p.fr e hi).q
def y0 : DY := (0, 12, -1, fun _ => 0)
def XH (hs : List DY) (nx : Nat) (h : AH) : Prop := (nx < 10) ∧ (hs.length ≤ 10) ∧ (ivA h 14 1 = kI nx) ∧ (ivA h 14 2 = kI hs.length) ∧ (∀ i, i < hs.length → XQ (hs.getD i y0) (16 + 2 * ((nx + 9 - i) % 10)) h)
theorem XH.n {hs : List DY} {nx : Nat} {h : AH} (C : XH hs nx h) : nx < 10 := C.1
theorem XH.len {hs : List DY} {nx : Nat} {h : AH} (C : XH hs nx h) : hs.length ≤ 10 := C.2.1
theorem XH.i1 {hs : List DY} {nx : Nat} {h : AH} (C : XH hs nx h) : ivA h 14 1 = kI nx := C.2.2.1
theorem XH.i2 {hs : List DY} {nx : Nat} {h : AH} (C : XH hs nx h) : ivA h 14 2 = kI hs.length := C.2.2.2.1
theorem XH.pg {hs : List DY} {nx : Nat} {h : AH} (C : XH hs nx h) : ∀ i, i < hs.length → XQ (hs.getD i y0) (16 + 2 * ((nx + 9 - i) % 10)) h := C.2.2.2.2
theorem XH.fr {I J : Nat → Nat → Prop} {hs : List DY} {nx : Nat} {h h' : AH} (C : XH hs nx h) (e : Fr I J h h') (hi : ∀ a k, 14 ≤ a → a ≤ 35 → ¬ I a k) : XH hs nx h' := by
  refine ⟨C.n, C.len, ?_, ?_, fun i hl => (C.pg i hl).fr e (fun k => ⟨hi _ _ (by omega) (by omega), hi _ _ (by omega) (by omega)⟩)⟩
  · rw [e.2.2.2.2.2.1 _ _ (hi 14 1 (by omega) (by omega))]; exact C.i1
  · rw [e.2.2.2.2.2.1 _ _ (hi 14 2 (by omega) (by omega))]; exact C.i2
/-- the history's cells -/
def IH (a k : Nat) : Prop := (a = 14 ∧ (k = 1 ∨ k = 2)) ∨ (16 ≤ a ∧ a ≤ 35)
theorem getD_take {hs : List DY} {i n : Nat} (h : i < n) : (hs.take n).getD i y0 = hs.getD i y0 := by
  rw [List.getD_eq_getElem?_getD, List.getElem?_take, if_pos h, ← List.getD_eq_getElem?_getD]
theorem getD_drop {hs : List DY} {i n : Nat} : (hs.drop n).getD i y0 = hs.getD (n + i) y0 := by
  rw [List.getD_eq_getElem?_getD, List.getElem?_drop, ← List.getD_eq_getElem?_getD]
theorem Hi_keep_g {y : DY} {v : Int} {hs : List DY} {nx pg : Nat} {h : AH} (F : Fix h) (X : XH hs nx h) (g : PG pg) (hg : pg < 16 ∨ 36 ≤ pg) (C : XP y v pg h) : GV 2 m_Hi_keep [.ref 14, .ref pg] h (fun h' => Fr IH JM h h' ∧ XH ((y :: hs).take 10) ((nx + 1) % 10) h') := by
  have n10 := X.n
  have l10 := X.len
  refine GVo (s_Hi_keep_0 ?_)
  have b2 := g.b
  simp (disch := omega) only [kd_14 F, rv_14_0 F, kd_15 F, ln_15 F, X.i1, ix_lit, inB_lit, decide_true, Bool.true_or, Bool.or_true, true_and, and_true, kI_add, kI_sub, kI_mul, tn_add, Int.toNat_natCast, Int.reduceToNat, kI_le, kI_lt, kI_inj, decide_eq_true_eq, Bool.not_eq_true', decide_eq_false_iff_not, not_true_eq_false, not_false_eq_true, Classical.not_not, Bool.false_eq_true, if_true, if_false, z0, bI_k0, bI_k1, isB_b, isB_0, isB_1, kI_long, kd_stI, ln_stI, rv_stI, Nat.reduceLeDiff, rv15 F, pg_k F (PG.hist n10)]
  refine GV.use (Pg_copy_g F (PG.hist n10) g (by omega) C (kI_of _)) (by omega) (fun h1 e1 => ?_)
  have F1 := e1.1.fix F
  have i1 : ivA h1 14 1 = kI nx := by rw [e1.1.2.2.2.2.2.1 14 1 (by omega)]; exact X.i1
  have i2 : ivA h1 14 2 = kI hs.length := by rw [e1.1.2.2.2.2.2.1 14 2 (by omega)]; exact X.i2
  have er : kI ((nx : Int) + 1) - kI ((nx : Int) + 1) / kI 10 * kI 10 = kI (((nx + 1) % 10 : Nat) : Int) := by
    have e2 : kI ((nx : Int) + 1) = kI ((nx + 1 : Nat) : Int) := rfl
    rw [e2, show kI 10 = kI ((10 : Nat) : Int) from rfl, kI_rem (by omega) (by omega) (by omega)]
  simp (disch := omega) only [kd_14 F1, kd_stI, i1, i2, er, ix_lit, inB_lit, decide_true, Bool.true_or, Bool.or_true, true_and, and_true, kI_add, kI_sub, kI_mul, tn_add, Int.toNat_natCast, Int.reduceToNat, kI_le, kI_lt, kI_inj, decide_eq_true_eq, Bool.not_eq_true', decide_eq_false_iff_not, not_true_eq_false, not_false_eq_true, Classical.not_not, Bool.false_eq_true, if_true, if_false, z0, bI_k0, bI_k1, isB_b, isB_0, isB_1, kI_long, kd_stI, ln_stI, rv_stI, iv_stI, Nat.reduceEqDiff, and_false, if_false, Int.reduceEq]
  have lt : ((y :: hs).take 10).length = min 10 (hs.length + 1) := by rw [List.length_take]; rfl
  have f1 : Fr IH JM h h1 := e1.1.mono (fun a k w => by unfold IH; omega) (fun _ _ w => w)
  have f2 := (f1.stI (a := 14) (k := 1) (Or.inl ⟨rfl, Or.inl rfl⟩) (kI (((nx + 1) % 10 : Nat) : Int))).stI (a := 14) (k := 2) (Or.inl ⟨rfl, Or.inr rfl⟩) (if (hs.length : Int) + 1 < 10 then kI ((hs.length : Int) + 1) else kI 10)
  refine ⟨rfl, f2, by omega, by rw [lt]; omega, ?_, ?_, ?_⟩
  · rw [iv_stI, if_neg (by omega), iv_stI, if_pos ⟨rfl, rfl⟩]
  · rw [iv_stI, if_pos ⟨rfl, rfl⟩, lt]
    by_cases q : (hs.length : Int) + 1 < 10
    · rw [if_pos q]
      congr 1
      omega
    · rw [if_neg q]
      congr 1
      omega
  · intro i hi
    rw [lt] at hi
    have fq : ∀ z pg, 16 ≤ pg → XQ z pg h1 → XQ z pg (stI (stI h1 14 1 (kI (((nx + 1) % 10 : Nat) : Int))) 14 2 (if (hs.length : Int) + 1 < 10 then kI ((hs.length : Int) + 1) else kI 10)) := fun z pg hp q => q.fr (((Fr_rfl (fun a _ => a = 14) JM h1).stI rfl _).stI rfl _) (fun k => ⟨by omega, by omega⟩)
    refine fq _ (16 + 2 * (((nx + 1) % 10 + 9 - i) % 10)) (by omega) ?_
    rw [getD_take (by omega)]
    by_cases q : i = 0
    · subst q
      have e : (((nx + 1) % 10 + 9 - 0) % 10) = nx := by omega
      rw [e]
      exact e1.2.q
    · obtain ⟨j, rfl⟩ : ∃ j, i = j + 1 := ⟨i - 1, by omega⟩
      have e : (((nx + 1) % 10 + 9 - (j + 1)) % 10) = (nx + 9 - j) % 10 := by omega
      rw [e]
      exact (X.pg j (by omega)).fr e1.1 (fun k => ⟨by omega, by omega⟩)
theorem fmT10 : ∀ a : Nat, a < 10 → ∀ n : Nat, n < 11 → fmF (kI a - kI n) (kI 10) = kI (((a + 10 - n) % 10 : Nat) : Int) := by decide +kernel
theorem Hi_back_g {hs : List DY} {nx n : Nat} {v2 : Int} {h : AH} (F : Fix h) (X : XH hs nx h) (h1 : 1 ≤ n) (h2 : n ≤ hs.length) (hv : ivA h 8 3 = kI v2) : GV 2 m_Hi_bringBack [.ref 14, .int (kI n), .ref 8] h (fun h' => Fr (fun a k => IH a k ∨ a = 8 ∨ a = 9) JM h h' ∧ XH (hs.drop n) ((nx + 10 - n) % 10) h' ∧ XP (hs.getD (n - 1) y0) (v2 + 1) 8 h') := by
  have n10 := X.n
  have l10 := X.len
  refine GVo (s_Hi_bringBack_0 ?_)
  have g8 : PG 8 := Or.inl rfl
  have e1 : fmF (kI nx - kI n) (kI 10) = kI (((nx + 10 - n) % 10 : Nat) : Int) := fmT10 nx n10 n (by omega)
  have e2 : (if (kI 0) < (kI hs.length - kI n) then (kI hs.length - kI n) else (kI 0)) = kI ((hs.length - n : Nat) : Int) := by
    have e : (kI 0 < kI ((hs.length : Int) - n)) ↔ 0 < (hs.length : Int) - n := kI_lt (by omega) (by omega) (by omega) (by omega)
    rw [kI_sub]
    by_cases q : 0 < (hs.length : Int) - n
    · rw [if_pos (e.mpr q)]; congr 1; omega
    · rw [if_neg (fun w => q (e.mp w))]; congr 1; omega
  have hp : (nx + 10 - n) % 10 < 10 := by omega
  have f0 : Fr (fun a k => a = 14 ∧ (k = 1 ∨ k = 2)) JM h (stI (stI h 14 1 (kI (((nx + 10 - n) % 10 : Nat) : Int))) 14 2 (kI ((hs.length - n : Nat) : Int))) := ((Fr_rfl _ _ _).stI ⟨rfl, Or.inl rfl⟩ _).stI ⟨rfl, Or.inr rfl⟩ _
  have F0 := f0.fix F
  have pgn := X.pg (n - 1) (by omega)
  rw [show (nx + 9 - (n - 1)) % 10 = (nx + 10 - n) % 10 by omega] at pgn
  have pgn' := pgn.fr f0 (fun k => ⟨by omega, by omega⟩)
  have hv' : ivA (stI (stI h 14 1 (kI (((nx + 10 - n) % 10 : Nat) : Int))) 14 2 (kI ((hs.length - n : Nat) : Int))) 8 3 = kI v2 := by rw [f0.2.2.2.2.2.1 8 3 (by omega)]; exact hv
  simp (disch := omega) only [kd_14 F, rv_14_0 F, kd_15 F, ln_15 F, kd_8 F, kd_stI, rv_stI, ln_stI, X.i1, X.i2, e1, e2, decide_true, true_and, z0, kI_inj, Int.reduceEq, Bool.not_eq_true', decide_eq_false_iff_not, not_false_eq_true, iv_stI, Nat.reduceEqDiff, and_false, and_true, if_true, if_false, Nat.reduceLeDiff, inB_lit, ix_lit, Int.toNat_natCast, rv15 F]
  refine GV.use (Pg_copy_g F0 g8 (PG.hist hp) (by omega) pgn'.p hv') (by omega) (fun h3 e3 => ?_)
  have f1 : Fr (fun a k => IH a k ∨ a = 8 ∨ a = 9) JM h h3 := (f0.mono (fun a k w => Or.inl (Or.inl w)) (fun _ _ w => w)).trans (e3.1.mono (fun a k w => Or.inr (by omega)) (fun _ _ w => w))
  refine ⟨rfl, f1, ⟨by omega, by simp; omega, ?_, ?_, ?_⟩, e3.2⟩
  · rw [e3.1.2.2.2.2.2.1 _ _ (by omega), iv_stI, if_neg (by omega), iv_stI, if_pos ⟨rfl, rfl⟩]
  · rw [e3.1.2.2.2.2.2.1 _ _ (by omega), iv_stI, if_pos ⟨rfl, rfl⟩, List.length_drop]
  · intro i hi
    rw [List.length_drop] at hi
    rw [getD_drop, show (((nx + 10 - n) % 10 + 9 - i) % 10) = (nx + 9 - (n + i)) % 10 by omega]
    exact ((X.pg (n + i) (by omega)).fr f0 (fun k => ⟨by omega, by omega⟩)).fr e3.1 (fun k => ⟨by omega, by omega⟩)
