/-! new cells; the paths' room -/
theorem kd_nw (h : AH) (t n x : Nat) : kdA (nwA h t n) x = if x = szA h + 1 then t else kdA h x := rfl
theorem ln_nw (h : AH) (t n x : Nat) : lnA (nwA h t n) x = if x = szA h + 1 then n else lnA h x := rfl
theorem iv_nw (h : AH) (t n x k : Nat) : ivA (nwA h t n) x k = if x = szA h + 1 then 0 else ivA h x k := by
  show up1 h.2.2.1 (szA h + 1) (fun _ => 0) x k = _
  unfold up1
  split <;> rfl
theorem jv_nw (h : AH) (t n x k : Nat) : jvA (nwA h t n) x k = if x = szA h + 1 then 0 else jvA h x k := by
  show up1 h.2.2.2.1 (szA h + 1) (fun _ => 0) x k = _
  unfold up1
  split <;> rfl
theorem rv_nw (h : AH) (t n x k : Nat) : rvA (nwA h t n) x k = if x = szA h + 1 then 0 else rvA h x k := by
  show up1 h.2.2.2.2.1 (szA h + 1) (fun _ => 0) x k = _
  unfold up1
  split <;> rfl
theorem sz_nw (h : AH) (t n : Nat) : szA (nwA h t n) = szA h + 1 := rfl
theorem us_nw (h : AH) (t n : Nat) : usA (nwA h t n) = usA h + n := rfl
theorem old_ne {h : AH} {x : Nat} (o : old h x) (hz : szA h < 999000) : x ≠ szA h + 1 := by
  unfold old at o
  omega
theorem FN_nw {A : Nat → Prop} {h : AH} (hz : szA h < 999000) (t n : Nat) : FN A h (nwA h t n) := by
  refine ⟨fun x o => ?_, ?_, fun _ => ?_, ?_, fun x o _ k => ?_, fun x o _ k => ?_, fun x o _ k => ?_⟩
  · rw [kd_nw, ln_nw, if_neg (old_ne o hz), if_neg (old_ne o hz)]; exact ⟨rfl, rfl⟩
  · rw [sz_nw]; omega
  · rw [sz_nw]; omega
  · rw [us_nw]; omega
  · rw [iv_nw, if_neg (old_ne o hz)]
  · rw [jv_nw, if_neg (old_ne o hz)]
  · rw [rv_nw, if_neg (old_ne o hz)]
theorem tab_le : (∀ q ∈ kdTab, q.1 ≤ 105) ∧ (∀ q ∈ lnTab, q.1 ≤ 105) ∧ (∀ q ∈ rvTab, q.1 ≤ 105) := by decide +kernel
theorem Fix.fn {A : Nat → Prop} {h h' : AH} (F : Fix h) (e : FN A h h') (n : ∀ q ∈ rvTab, A q.1 → rvA h' q.1 q.2.1 = rvA h q.1 q.2.1) : Fix h' := by
  have s := F.2.2.2
  refine ⟨fun q hq => ?_, fun q hq => ?_, fun q hq => ?_, by have := e.sz; omega⟩
  · rw [(e.kl q.1 (Or.inl (by have := tab_le.1 q hq; omega))).1]; exact F.1 q hq
  · rw [(e.kl q.1 (Or.inl (by have := tab_le.2.1 q hq; omega))).2]; exact F.2.1 q hq
  · by_cases z : A q.1
    · rw [n q hq z]; exact F.2.2.1 q hq
    · rw [e.rv q.1 (Or.inl (by have := tab_le.2.2 q hq; omega)) z]; exact F.2.2.1 q hq
theorem Fix.nw {h : AH} (F : Fix h) (hz : szA h < 999000) (t n : Nat) : Fix (nwA h t n) := F.fn (A := fun _ => False) (FN_nw hz t n) (fun _ _ z => z.elim)
theorem rvT_57 : ∀ q ∈ rvTab, ¬ (q.1 = 57 ∧ (q.2.1 = 1 ∨ q.2.1 = 9 ∨ q.2.1 = 10 ∨ q.2.1 = 11)) := by decide +kernel
theorem rvT_65 : ∀ q ∈ rvTab, ¬ (q.1 = 65 ∧ q.2.1 = 1) := by decide +kernel
/-! what is still to be made -/
def Phi (L : List Nat) (x : Nat) : Nat := (L.filter (fun z => decide (x < z))).sum
theorem Phi_step {L : List Nat} {z x : Nat} (hz : z ∈ L) (h : x < z) : Phi L z + z ≤ Phi L x := by
  unfold Phi
  induction L with
  | nil => cases hz
  | cons u L ih =>
    have mono : ∀ L : List Nat, (L.filter (fun w => decide (z < w))).sum ≤ (L.filter (fun w => decide (x < w))).sum := by
      intro L
      induction L with
      | nil => exact Nat.le_refl _
      | cons v L ihL =>
        rw [List.filter_cons, List.filter_cons]
        by_cases q : z < v
        · rw [if_pos (by simpa using q), if_pos (by simp; omega), List.sum_cons, List.sum_cons]
          omega
        · rw [if_neg (by simpa using q)]
          by_cases q2 : x < v
          · rw [if_pos (by simpa using q2), List.sum_cons]
            omega
          · rw [if_neg (by simpa using q2)]
            exact ihL
    rw [List.filter_cons, List.filter_cons]
    rcases List.mem_cons.mp hz with e | e
    · subst e
      rw [if_neg (by simp), if_pos (by simpa using h), List.sum_cons]
      have := mono L
      omega
    · have := ih e
      by_cases q : z < u
      · rw [if_pos (by simpa using q), if_pos (by simp; omega), List.sum_cons, List.sum_cons]
        omega
      · rw [if_neg (by simpa using q)]
        by_cases q2 : x < u
        · rw [if_pos (by simpa using q2), List.sum_cons]
          omega
        · rw [if_neg (by simpa using q2)]
          exact this
def LA : List Nat := [2, 4, 8, 16, 32, 64, 128, 256, 512, 1024, 2048, 4096]
def LM : List Nat := [2, 4, 8, 16, 32, 64, 128, 256, 512, 1024, 2048, 4096, 4, 12, 32, 80, 192, 448, 1024, 2304, 5120, 11264, 24576, 53248]
theorem LA_mem {s : ST} (w : WFS s) : 2 ^ sN s ∈ LA := by
  have h : ∀ n, n < 13 → 1 ≤ n → 2 ^ n ∈ LA := by decide +kernel
  exact h _ (by have := w.n12; omega) w.n1
theorem LM_mem {s : ST} (w : WFS s) : 2 ^ sN s * wdt s ∈ LM := by
  have h : ∀ n, n < 13 → 1 ≤ n → 2 ^ n * (n + 1) ∈ LM ∧ 2 ^ n * 1 ∈ LM := by decide +kernel
  have := h _ (by have := w.n12; omega) w.n1
  unfold wdt
  split
  · exact this.1
  · exact this.2
/-- the room that the paths may still take -/
def PhP (h : AH) : Nat := Phi LA (lnA h (rvA h 57 9)) + 2 * Phi LM (lnA h (rvA h 57 10))
def TD (T : Nat → Nat) (h : AH) : Prop := ∀ x, szA h < x → T x = 2
def PAs (T : Nat → Nat) (h : AH) : Prop := (PArr T (rvA h 57 9) 20 0 h) ∧ (PArr T (rvA h 57 10) 23 0 h) ∧ (PArr T (rvA h 57 11) 20 0 h) ∧ (rvA h 57 9 ≠ rvA h 57 10 ∧ rvA h 57 9 ≠ rvA h 57 11 ∧ rvA h 57 10 ≠ rvA h 57 11) ∧ (lnA h (rvA h 57 11) = lnA h (rvA h 57 10))
theorem PAs.a {T : Nat → Nat} {h : AH} (C : PAs T h) : PArr T (rvA h 57 9) 20 0 h := C.1
theorem PAs.m {T : Nat → Nat} {h : AH} (C : PAs T h) : PArr T (rvA h 57 10) 23 0 h := C.2.1
theorem PAs.v {T : Nat → Nat} {h : AH} (C : PAs T h) : PArr T (rvA h 57 11) 20 0 h := C.2.2.1
theorem PAs.ne {T : Nat → Nat} {h : AH} (C : PAs T h) : rvA h 57 9 ≠ rvA h 57 10 ∧ rvA h 57 9 ≠ rvA h 57 11 ∧ rvA h 57 10 ≠ rvA h 57 11 := C.2.2.2.1
theorem PAs.l {T : Nat → Nat} {h : AH} (C : PAs T h) : lnA h (rvA h 57 11) = lnA h (rvA h 57 10) := C.2.2.2.2
def Rm (h h' : AH) : Prop := usA h' + PhP h' ≤ usA h + PhP h ∧ szA h' ≤ szA h + 3
set_option maxHeartbeats 1000000 in
theorem Pa_makeRoom_g {T : Nat → Nat} {s : ST} {p : Nat} {h : AH} (F : Fix h) (t : TF T) (S : XS T s p h) (r1 : rvA h 57 1 = p) (i6 : ivA h 57 6 = kI (wdt s)) (X : PAs T h) (td : TD T h) (hz : szA h < 900000) : GV 2 m_Pa_makeRoom [.ref 57] h (fun h' => FN (fun x => x = 57 ∨ x = rvA h 57 9) h h' ∧ Fix h' ∧ Rm h h' ∧ PAs T h' ∧ 2 ^ sN s ≤ lnA h' (rvA h' 57 9) ∧ 2 ^ sN s * wdt s ≤ lnA h' (rvA h' 57 10) ∧ (∀ k, ivA h' 57 k = ivA h 57 k) ∧ (∀ k, jvA h' 57 k = jvA h 57 k) ∧ rvA h' 57 1 = p ∧ ∀ m, m < 2 ^ sN s → ivA h' (rvA h' 57 9) m = kI 0) := by
  have w := S.wf
  have n2 := w.n12
  have wd := wdt_b w
  have p12 : 2 ^ sN s ≤ 2 ^ 12 := Nat.pow_le_pow_right (by omega) n2
  have p12' : (2 : Nat) ^ 12 = 4096 := rfl
  have p1 : 1 ≤ 2 ^ sN s := Nat.one_le_two_pow
  have pw : 2 ^ sN s * wdt s ≤ 4096 * 13 := Nat.mul_le_mul (by omega) wd.2
  have fin : ∀ h2, FN (fun x => x = 57) h h2 → Fix h2 → Rm h h2 → PAs T h2 → (rvA h2 57 9 = rvA h 57 9 ∨ szA h < rvA h2 57 9) → 2 ^ sN s ≤ lnA h2 (rvA h2 57 9) → 2 ^ sN s * wdt s ≤ lnA h2 (rvA h2 57 10) → (∀ k, ivA h2 57 k = ivA h 57 k) → (∀ k, jvA h2 57 k = jvA h 57 k) → rvA h2 57 1 = p → Safe 1 m_Pa_makeRoom (64, [.ref 57, unV], [], h2) (fun v h' => Eqv v none ∧ FN (fun x => x = 57 ∨ x = rvA h 57 9) h h' ∧ Fix h' ∧ Rm h h' ∧ PAs T h' ∧ 2 ^ sN s ≤ lnA h' (rvA h' 57 9) ∧ 2 ^ sN s * wdt s ≤ lnA h' (rvA h' 57 10) ∧ (∀ k, ivA h' 57 k = ivA h 57 k) ∧ (∀ k, jvA h' 57 k = jvA h 57 k) ∧ rvA h' 57 1 = p ∧ ∀ m, m < 2 ^ sN s → ivA h' (rvA h' 57 9) m = kI 0) := by
    intro h2 e2 F2 R2 X2 or l1 l2 g1 g2 g3
    refine s_Pa_makeRoom_64 ?_
    refine ⟨by rw [kd_57 F2]; rfl, ?_⟩
    have x9 := X2.a
    have ne57 := x9.out (i := 57) (by omega) (by omega)
    refine GV.use (Ar_fill2_g x9.2.2.2.1 rfl (by have := x9.2.2.2.2.2; omega) (kI 0)) (by omega) (fun h3 e3 => ?_)
    obtain ⟨e3, z3⟩ := e3
    have rv3 : ∀ x k, rvA h3 x k = rvA h2 x k := fun x k => by rw [e3.2.2.1]
    have ln3 : ∀ x, lnA h3 x = lnA h2 x := fun x => by rw [e3.2.1]
    have o9 : ∀ x, old h x → x = rvA h2 57 9 → x = rvA h 57 9 := fun x o z => by
      rcases or with q | q
      · rw [z, q]
      · exfalso
        have := x9.2.2.1
        have := R2.2
        unfold old at o
        omega
    refine ⟨rfl, ⟨fun x o => ?_, ?_, fun _ => ?_, ?_, fun x o n k => ?_, fun x o n k => ?_, fun x o n k => ?_⟩, e3.fix F2, ?_, ?_, ?_, ?_, fun k => ?_, fun k => ?_, ?_, fun m hm => ?_⟩
    · have := e2.kl x o
      rw [e3.1, e3.2.1]
      exact this
    · rw [e3.2.2.2.1]; exact e2.sz
    · rw [e3.2.2.2.1]; exact e2.lt (by omega)
    · rw [e3.2.2.2.2.1]; exact e2.us
    · rw [e3.2.2.2.2.2.1 x k (fun z => n (Or.inr (o9 x o z)))]
      exact e2.iv x o (fun z => n (Or.inl z)) k
    · rw [e3.2.2.2.2.2.2 x k (fun z => z)]
      exact e2.jv x o (fun z => n (Or.inl z)) k
    · rw [rv3]
      exact e2.rv x o (fun z => n (Or.inl z)) k
    · unfold Rm PhP at R2 ⊢
      rw [rv3, rv3, ln3, ln3, e3.2.2.2.2.1, e3.2.2.2.1]
      exact R2
    · refine ⟨?_, ?_, ?_, ?_, ?_⟩
      · rw [rv3]; exact X2.a.fr e3
      · rw [rv3]; exact X2.m.fr e3
      · rw [rv3]; exact X2.v.fr e3
      · rw [rv3, rv3, rv3]; exact X2.ne
      · rw [rv3, rv3, ln3, ln3]; exact X2.l
    · rw [rv3, ln3]; exact l1
    · rw [rv3, ln3]; exact l2
    · rw [e3.2.2.2.2.2.1 57 k (fun z => ne57 z.symm)]; exact g1 k
    · rw [e3.2.2.2.2.2.2 57 k (fun z => z)]; exact g2 k
    · rw [rv3]; exact g3
    · rw [rv3]; exact z3 m (by omega)
  have s26 : ∀ h2, FN (fun x => x = 57) h h2 → Fix h2 → usA h2 + Phi LA (lnA h2 (rvA h2 57 9)) ≤ usA h + Phi LA (lnA h (rvA h 57 9)) → szA h2 ≤ szA h + 1 → PArr T (rvA h2 57 9) 20 0 h2 → (rvA h2 57 9 = rvA h 57 9 ∨ szA h < rvA h2 57 9) → 2 ^ sN s ≤ lnA h2 (rvA h2 57 9) → (∀ k, k ≠ 9 → rvA h2 57 k = rvA h 57 k) → (∀ k, ivA h2 57 k = ivA h 57 k) → (∀ k, jvA h2 57 k = jvA h 57 k) → Safe 1 m_Pa_makeRoom (26, [.ref 57, .int (kI ((2 ^ sN s : Nat) : Int))], [], h2) (fun v h' => Eqv v none ∧ FN (fun x => x = 57 ∨ x = rvA h 57 9) h h' ∧ Fix h' ∧ Rm h h' ∧ PAs T h' ∧ 2 ^ sN s ≤ lnA h' (rvA h' 57 9) ∧ 2 ^ sN s * wdt s ≤ lnA h' (rvA h' 57 10) ∧ (∀ k, ivA h' 57 k = ivA h 57 k) ∧ (∀ k, jvA h' 57 k = jvA h 57 k) ∧ rvA h' 57 1 = p ∧ ∀ m, m < 2 ^ sN s → ivA h' (rvA h' 57 9) m = kI 0) := by
    intro h2 e2 F2 u2 z2 x9 or l1 r2 g1 g2
    have o10 : old h (rvA h 57 10) := Or.inl X.m.2.2.1
    have o11 : old h (rvA h 57 11) := Or.inl X.v.2.2.1
    have k10 := e2.kl _ o10
    have k11 := e2.kl _ o11
    have xm : PArr T (rvA h2 57 10) 23 0 h2 := by
      rw [r2 10 (by omega)]
      have := X.m
      have := e2.sz
      unfold PArr at *
      rw [k10.1, k10.2]
      omega
    have xv : PArr T (rvA h2 57 11) 20 0 h2 := by
      rw [r2 11 (by omega)]
      have := X.v
      have := e2.sz
      unfold PArr at *
      rw [k11.1, k11.2]
      omega
    have ne2 : rvA h2 57 9 ≠ rvA h2 57 10 ∧ rvA h2 57 9 ≠ rvA h2 57 11 ∧ rvA h2 57 10 ≠ rvA h2 57 11 := by
      have n := X.ne
      have b1 := X.m.2.2.1
      have b2 := X.v.2.2.1
      rw [r2 10 (by omega), r2 11 (by omega)]
      omega
    have le2 : lnA h2 (rvA h2 57 11) = lnA h2 (rvA h2 57 10) := by
      rw [r2 10 (by omega), r2 11 (by omega), k10.2, k11.2]
      exact X.l
    have lm : lnA h2 (rvA h2 57 10) = lnA h (rvA h 57 10) := by rw [r2 10 (by omega), k10.2]
    refine s_Pa_makeRoom_26 ?_
    have i62 : ivA h2 57 6 = kI (wdt s) := by rw [g1]; exact i6
    have ew : kI ((2 ^ sN s : Nat) : Int) * kI (wdt s : Int) = kI ((2 ^ sN s * wdt s : Nat) : Int) := by rw [kI_mul]; rfl
    have xml := xm.2.2.2.2.2
    rw [kd_57 F2, xm.2.2.2.1, i62, ew]
    refine ⟨rfl, rfl, rfl, ?_⟩
    by_cases q : 2 ^ sN s * wdt s ≤ lnA h2 (rvA h2 57 10)
    · rw [if_pos (by rw [decide_eq_true_eq, kI_le (by omega) (by omega) (by omega) (by omega)]; omega)]
      refine fin h2 e2 F2 ⟨?_, by omega⟩ ⟨x9, xm, xv, ne2, le2⟩ or l1 q g1 g2 (by rw [r2 1 (by omega)]; exact r1)
      unfold PhP
      rw [lm]
      omega
    · rw [if_neg (by rw [decide_eq_true_eq, kI_le (by omega) (by omega) (by omega) (by omega)]; omega)]
      have ixw : ix (kI ((2 ^ sN s * wdt s : Nat) : Int)) = 2 ^ sN s * wdt s := ix_kI (by omega)
      have okw : okN (kI ((2 ^ sN s * wdt s : Nat) : Int)) = true := inB_kI (by omega) (by omega)
      rw [ixw]
      have z20 : szA h2 < 999000 := by omega
      have F3 : Fix (nwA h2 23 (2 ^ sN s * wdt s)) := F2.nw z20 _ _
      have F4 : Fix (stR (nwA h2 23 (2 ^ sN s * wdt s)) 57 10 (szA h2 + 1)) := fix_stR F3 (fun q hq z => rvT_57 q hq ⟨z.1, by omega⟩)
      have z40 : szA (stR (nwA h2 23 (2 ^ sN s * wdt s)) 57 10 (szA h2 + 1)) = szA h2 + 1 := rfl
      have F5 : Fix (nwA (stR (nwA h2 23 (2 ^ sN s * wdt s)) 57 10 (szA h2 + 1)) 20 (2 ^ sN s * wdt s)) := F4.nw (by omega) _ _
      have F6 : Fix (stR (nwA (stR (nwA h2 23 (2 ^ sN s * wdt s)) 57 10 (szA h2 + 1)) 20 (2 ^ sN s * wdt s)) 57 11 (szA h2 + 1 + 1)) := fix_stR F5 (fun q hq z => rvT_57 q hq ⟨z.1, by omega⟩)
      have f57 : 105 ≤ szA h2 := F2.2.2.2
      have i64 : ivA (stR (nwA h2 23 (2 ^ sN s * wdt s)) 57 10 (szA h2 + 1)) 57 6 = kI (wdt s) := by
        rw [iv_stR, iv_nw, if_neg (by omega)]; exact i62
      rw [i64, ew, ixw, kd_57 F3, kd_57 F4, kd_57 F5, z40]
      refine ⟨rfl, okw, rfl, rfl, okw, rfl, ?_⟩
      obtain ⟨h6, h6e⟩ : ∃ h6, h6 = stR (nwA (stR (nwA h2 23 (2 ^ sN s * wdt s)) 57 10 (szA h2 + 1)) 20 (2 ^ sN s * wdt s)) 57 11 (szA h2 + 1 + 1) := ⟨_, rfl⟩
      rw [← h6e] at F6 ⊢
      have e26 : FN (fun x => x = 57) h2 h6 := by
        rw [h6e]
        have q1 : FN (fun x => x = 57) h2 (nwA h2 23 (2 ^ sN s * wdt s)) := FN_nw z20 _ _
        have q2 : FN (fun x => x = 57) (nwA h2 23 (2 ^ sN s * wdt s)) (stR (nwA h2 23 (2 ^ sN s * wdt s)) 57 10 (szA h2 + 1)) := FN_stR rfl
        have q3 : FN (fun x => x = 57) (stR (nwA h2 23 (2 ^ sN s * wdt s)) 57 10 (szA h2 + 1)) (nwA (stR (nwA h2 23 (2 ^ sN s * wdt s)) 57 10 (szA h2 + 1)) 20 (2 ^ sN s * wdt s)) := FN_nw (by omega) _ _
        exact q1.trans (q2.trans (q3.trans (FN_stR rfl)))
      have sz6 : szA h6 = szA h2 + 2 := by rw [h6e]; rfl
      have us6 : usA h6 = usA h2 + 2 ^ sN s * wdt s + 2 ^ sN s * wdt s := by rw [h6e]; rfl
      have rv6 : ∀ k, k ≠ 10 → k ≠ 11 → rvA h6 57 k = rvA h2 57 k := fun k k1 k2 => by
        rw [h6e, rv_stR, if_neg (fun z => k2 z.2), rv_nw, if_neg (by omega), rv_stR, if_neg (fun z => k1 z.2), rv_nw, if_neg (by omega)]
      have rv610 : rvA h6 57 10 = szA h2 + 1 := by
        rw [h6e, rv_stR, if_neg (by omega), rv_nw, if_neg (by omega), rv_stR, if_pos ⟨rfl, rfl⟩]
      have rv611 : rvA h6 57 11 = szA h2 + 1 + 1 := by
        rw [h6e, rv_stR, if_pos ⟨rfl, rfl⟩]
      have kd610 : kdA h6 (szA h2 + 1) = 23 ∧ lnA h6 (szA h2 + 1) = 2 ^ sN s * wdt s := by
        rw [h6e, kd_stR, ln_stR, kd_nw, ln_nw, z40, if_neg (by omega), if_neg (by omega), kd_stR, ln_stR, kd_nw, ln_nw, if_pos rfl, if_pos rfl]
        exact ⟨rfl, rfl⟩
      have kd611 : kdA h6 (szA h2 + 1 + 1) = 20 ∧ lnA h6 (szA h2 + 1 + 1) = 2 ^ sN s * wdt s := by
        rw [h6e, kd_stR, ln_stR, kd_nw, ln_nw, z40, if_pos rfl, if_pos rfl]
        exact ⟨rfl, rfl⟩
      have o9 : old h2 (rvA h2 57 9) := Or.inl x9.2.2.1
      have k9 := e26.kl _ o9
      have tz1 := td (szA h2 + 1) (by have := e2.sz; omega)
      have tz2 := td (szA h2 + 1 + 1) (by have := e2.sz; omega)
      refine fin h6 (e2.trans e26) F6 ⟨?_, by omega⟩ ⟨?_, ?_, ?_, ?_, ?_⟩ (by rw [rv6 9 (by omega) (by omega)]; exact or) ?_ ?_ (fun k => ?_) (fun k => ?_) ?_
      · have st := Phi_step (LM_mem w) (show lnA h (rvA h 57 10) < 2 ^ sN s * wdt s by omega)
        unfold PhP
        rw [rv6 9 (by omega) (by omega), k9.2, rv610, kd610.2]
        omega
      · rw [rv6 9 (by omega) (by omega)]
        unfold PArr at x9 ⊢
        rw [k9.1, k9.2]
        omega
      · rw [rv610]
        unfold PArr
        rw [kd610.1, kd610.2]
        omega
      · rw [rv611]
        unfold PArr
        rw [kd611.1, kd611.2]
        omega
      · rw [rv610, rv611, rv6 9 (by omega) (by omega)]
        have := x9.2.2.1
        omega
      · rw [rv610, rv611, kd610.2, kd611.2]
      · rw [rv6 9 (by omega) (by omega), k9.2]; exact l1
      · rw [rv610, kd610.2]; exact Nat.le_refl _
      · rw [h6e, iv_stR, iv_nw, if_neg (by omega), iv_stR, iv_nw, if_neg (by omega)]; exact g1 k
      · rw [h6e, jv_stR, jv_nw, if_neg (by omega), jv_stR, jv_nw, if_neg (by omega)]; exact g2 k
      · rw [rv6 1 (by omega) (by omega), r2 1 (by omega)]; exact r1
  refine GVo (s_Pa_makeRoom_0 ?_)
  have e1 : kI ((2 ^ sN s - 1 : Nat) : Int) + kI 1 = kI ((2 ^ sN s : Nat) : Int) := by
    rw [kI_add]; congr 1; omega
  have xa := X.a
  have xal := xa.2.2.2.2.2
  rw [kd_57 F, r1, S.k, S.i3, e1, xa.2.2.2.1]
  refine ⟨rfl, rfl, rfl, rfl, ?_⟩
  by_cases q : 2 ^ sN s ≤ lnA h (rvA h 57 9)
  · rw [if_pos (by rw [decide_eq_true_eq, kI_le (by omega) (by omega) (by omega) (by omega)]; omega)]
    exact s26 h (FN_rfl _ _) F (by omega) (by omega) xa (Or.inl rfl) q (fun _ _ => rfl) (fun _ => rfl) (fun _ => rfl)
  · rw [if_neg (by rw [decide_eq_true_eq, kI_le (by omega) (by omega) (by omega) (by omega)]; omega)]
    have ixw : ix (kI ((2 ^ sN s : Nat) : Int)) = 2 ^ sN s := ix_kI (by omega)
    rw [ixw]
    have z20 : szA h < 999000 := by omega
    have F3 : Fix (nwA h 20 (2 ^ sN s)) := F.nw z20 _ _
    have F4 : Fix (stR (nwA h 20 (2 ^ sN s)) 57 9 (szA h + 1)) := fix_stR F3 (fun q hq z => rvT_57 q hq ⟨z.1, by omega⟩)
    have f57 : 105 ≤ szA h := F.2.2.2
    rw [kd_57 F3]
    refine ⟨inB_kI (by omega) (by omega), rfl, ?_⟩
    have rv9 : rvA (stR (nwA h 20 (2 ^ sN s)) 57 9 (szA h + 1)) 57 9 = szA h + 1 := by rw [rv_stR, if_pos ⟨rfl, rfl⟩]
    have kd9 : kdA (stR (nwA h 20 (2 ^ sN s)) 57 9 (szA h + 1)) (szA h + 1) = 20 ∧ lnA (stR (nwA h 20 (2 ^ sN s)) 57 9 (szA h + 1)) (szA h + 1) = 2 ^ sN s := by
      rw [kd_stR, ln_stR, kd_nw, ln_nw, if_pos rfl, if_pos rfl]
      exact ⟨rfl, rfl⟩
    have st := Phi_step (LA_mem w) (show lnA h (rvA h 57 9) < 2 ^ sN s by omega)
    have tz1 := td (szA h + 1) (by omega)
    refine s26 _ ((FN_nw z20 _ _).trans (FN_stR rfl)) F4 ?_ (Nat.le_refl _) ?_ (Or.inr (by rw [rv9]; omega)) (by rw [rv9, kd9.2]; exact Nat.le_refl _) (fun k k1 => ?_) (fun k => ?_) (fun k => ?_)
    · rw [rv9, kd9.2]
      show usA h + 2 ^ sN s + _ ≤ _
      omega
    · rw [rv9]
      unfold PArr
      rw [kd9.1, kd9.2]
      have : szA (stR (nwA h 20 (2 ^ sN s)) 57 9 (szA h + 1)) = szA h + 1 := rfl
      omega
    · rw [rv_stR, if_neg (fun z => k1 z.2), rv_nw, if_neg (by omega)]
    · rw [iv_stR, iv_nw, if_neg (by omega)]
    · rw [jv_stR, jv_nw, if_neg (by omega)]
