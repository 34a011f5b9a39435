/-! seen, on the class's side: refusal, fitting, telling, findAble, authors -/
theorem PG68 : PG 68 := by unfold PG; omega
def allB (p : Nat → Bool) : Nat → Bool
  | 0 => true
  | k + 1 => allB p k && p k
theorem allB_iff {p : Nat → Bool} : ∀ {n : Nat}, allB p n = true ↔ ∀ i, i < n → p i = true
  | 0 => ⟨fun _ i hi => by omega, fun _ => rfl⟩
  | k + 1 => by
    show (allB p k && p k) = true ↔ _
    rw [Bool.and_eq_true, allB_iff]
    constructor
    · intro ⟨h1, h2⟩ i hi
      by_cases q : i = k
      · rw [q]; exact h2
      · exact h1 i (by omega)
    · intro H
      exact ⟨fun i hi => H i (by omega), H k (by omega)⟩
theorem allB_no {p : Nat → Bool} {n i : Nat} (hi : i < n) (h : p i = false) : allB p n = false := by
  cases q : allB p n
  · rfl
  · rw [allB_iff.mp q i hi] at h
    cases h
def pD (f : Nat → Int) (m : Nat) : Nat → Nat
  | 0 => m
  | k + 1 => pD f m k ||| 2 ^ (f k).toNat
def pL (f : Nat → Int) (l : Nat) : Nat → Nat
  | 0 => l
  | k + 1 => (f k).toNat
def okB (s : ST) (f : Nat → Int) (m : Nat) (i : Nat) : Bool := decide (0 ≤ f i) && decide (f i < sN s) && !(pD f m i).testBit (f i).toNat
theorem okB_iff {s : ST} {f : Nat → Int} {m i : Nat} : okB s f m i = true ↔ 0 ≤ f i ∧ f i < sN s ∧ (pD f m i).testBit (f i).toNat = false := by
  unfold okB
  simp [and_assoc]
theorem pD_lt {s : ST} {f : Nat → Int} {m : Nat} (hm : m < 2 ^ sN s) : ∀ {n : Nat}, (∀ i, i < n → okB s f m i = true) → pD f m n < 2 ^ sN s
  | 0, _ => hm
  | k + 1, H => by
    have h1 := okB_iff.mp (H k (by omega))
    exact or_lt2 (pD_lt hm (fun i hi => H i (by omega))) (by omega)
theorem pL_ok {s : ST} {f : Nat → Int} {m l : Nat} (hl : l = 12 ∨ l < sN s) : ∀ {n : Nat}, (∀ i, i < n → okB s f m i = true) → pL f l n = 12 ∨ pL f l n < sN s
  | 0, _ => hl
  | k + 1, H => by
    have h1 := okB_iff.mp (H k (by omega))
    exact Or.inr (by show (f k).toNat < sN s; omega)
def seR (s : ST) (y : DY) (so : Int) (n : Nat) (f : Nat → Int) : Int := if so = -1 then -6 else if 1 ≤ n ∧ n ≤ 12 then (if allB (okB s f (yD y)) n = true then 0 else -3) else -4
theorem Se_refusal_c {T : Nat → Nat} {s : ST} {p : Nat} {y : DY} {v : Int} {hs : List DY} {nx : Nat} {h : AH} (B : BX T s p y v hs nx h) {w : TW} (X : XTs w h) (W : WTs w) {t : Nat} (ht : t < 4) {d : Nat} (hd : 2 ≤ d) {K : Int32 → AH → Prop} : CallI d m_Se_refusal [.ref 67, .ref p, .ref 8, .ref (74 + 2 * t)] h K ↔ K (kI (seR s y (w.1 t) (w.2.1 t) (w.2.2 t))) h := by
  have F := B.F
  have Tf := tr_fix F ht
  have Wt := W t ht
  have Xt := X t ht
  have n40 := Wt.2.2.1
  have n2 := B.S.wf.n12
  refine Ret.I (d := 2) (ret_of (s_Se_refusal_0 ?_)) hd
  unfold seR
  by_cases q3 : w.1 t = -1
  · simp (disch := omega) only [Tf.2.1, ix_lit, inB_lit, decide_true, Bool.true_or, Bool.or_true, true_and, and_true, kI_add, kI_sub, kI_mul, tn_add, Int.toNat_natCast, Int.reduceToNat, kI_le, kI_lt, kI_inj, decide_eq_true_eq, Bool.not_eq_true', decide_eq_false_iff_not, not_true_eq_false, not_false_eq_true, Classical.not_not, Bool.false_eq_true, if_true, if_false, z0, bI_k0, bI_k1, isB_b, isB_0, isB_1, kI_long, kd_stI, ln_stI, rv_stI, Tr_isMissing_c ht F Wt Xt, q3]
    (all_goals first | exact ⟨rfl, rfl⟩ | exact ⟨rfl, trivial⟩ | rfl | trivial)
  · have sz := Xt.sz q3
    simp (disch := omega) only [Tf.2.1, ix_lit, inB_lit, decide_true, Bool.true_or, Bool.or_true, true_and, and_true, kI_add, kI_sub, kI_mul, tn_add, Int.toNat_natCast, Int.reduceToNat, kI_le, kI_lt, kI_inj, decide_eq_true_eq, Bool.not_eq_true', decide_eq_false_iff_not, not_true_eq_false, not_false_eq_true, Classical.not_not, Bool.false_eq_true, if_true, if_false, z0, bI_k0, bI_k1, isB_b, isB_0, isB_1, kI_long, kd_stI, ln_stI, rv_stI, Tr_isMissing_c ht F Wt Xt, q3, sz, kd_8 F, B.P.i0]
    by_cases a1 : (w.2.1 t : Int) < 1
    · rw [if_pos a1, if_neg (by omega)]
      (all_goals first | exact ⟨rfl, rfl⟩ | exact ⟨rfl, trivial⟩ | rfl | trivial)
    · rw [if_neg a1]
      by_cases a2 : (w.2.1 t : Int) ≤ 12
      · rw [if_pos a2, if_pos (by omega)]
        suffices H : ∀ k, k ≤ w.2.1 t → (∀ i, i < k → okB s (w.2.2 t) (yD y) i = true) → Safe 1 m_Se_refusal (39, [unV, .ref p, unV, .ref (74 + 2 * t), .int (kI (pD (w.2.2 t) (yD y) k : Nat)), .int (kI k), unV, unV], [], h) (fun v k => v = some (.int (kI (if allB (okB s (w.2.2 t) (yD y)) (w.2.1 t) = true then 0 else -3))) ∧ k = h) by
          exact H 0 (by omega) (fun i hi => by omega)
        refine down_ind (w.2.1 t) ?_ ?_
        · intro H
          refine s_Se_refusal_39 ?_
          simp (disch := omega) only [Tf.2.1, sz, ix_lit, inB_lit, decide_true, Bool.true_or, Bool.or_true, true_and, and_true, kI_add, kI_sub, kI_mul, tn_add, Int.toNat_natCast, Int.reduceToNat, kI_le, kI_lt, kI_inj, decide_eq_true_eq, Bool.not_eq_true', decide_eq_false_iff_not, not_true_eq_false, not_false_eq_true, Classical.not_not, Bool.false_eq_true, if_true, if_false, z0, bI_k0, bI_k1, isB_b, isB_0, isB_1, kI_long, kd_stI, ln_stI, rv_stI, Int.le_refl, allB_iff.mpr H]
        · intro k hk ih H
          have fb := Wt.2.2.2 k
          have hm : pD (w.2.2 t) (yD y) k < 4096 := Nat.lt_of_lt_of_le (pD_lt B.wy.1 H) (Nat.pow_le_pow_right (n := 2) (by omega) n2)
          refine s_Se_refusal_39 ?_
          have z1 : ¬ (w.2.1 t : Int) ≤ (k : Int) := by omega
          by_cases b1 : w.2.2 t k < 0
          · simp (disch := omega) only [Tf.2.1, sz, ix_lit, inB_lit, decide_true, Bool.true_or, Bool.or_true, true_and, and_true, kI_add, kI_sub, kI_mul, tn_add, Int.toNat_natCast, Int.reduceToNat, kI_le, kI_lt, kI_inj, decide_eq_true_eq, Bool.not_eq_true', decide_eq_false_iff_not, not_true_eq_false, not_false_eq_true, Classical.not_not, Bool.false_eq_true, if_true, if_false, z0, bI_k0, bI_k1, isB_b, isB_0, isB_1, kI_long, kd_stI, ln_stI, rv_stI, z1, Tr_at_c ht F Wt Xt q3, cmp_lt0, kJ_lt, b1]
            rw [allB_no hk (by unfold okB; simp; omega)]
            (all_goals first | exact ⟨rfl, rfl⟩ | exact ⟨rfl, trivial⟩ | rfl | trivial)
          · by_cases b2 : (sN s : Int) ≤ w.2.2 t k
            · simp (disch := omega) only [Tf.2.1, sz, ix_lit, inB_lit, decide_true, Bool.true_or, Bool.or_true, true_and, and_true, kI_add, kI_sub, kI_mul, tn_add, Int.toNat_natCast, Int.reduceToNat, kI_le, kI_lt, kI_inj, decide_eq_true_eq, Bool.not_eq_true', decide_eq_false_iff_not, not_true_eq_false, not_false_eq_true, Classical.not_not, Bool.false_eq_true, if_true, if_false, z0, bI_k0, bI_k1, isB_b, isB_0, isB_1, kI_long, kd_stI, ln_stI, rv_stI, z1, Tr_at_c ht F Wt Xt q3, cmp_lt0, cmp_ge0, kJ_lt, kJ_le, b1, B.S.k, B.S.i2, b2]
              rw [allB_no hk (by unfold okB; simp; omega)]
              (all_goals first | exact ⟨rfl, rfl⟩ | exact ⟨rfl, trivial⟩ | rfl | trivial)
            · have ej : (kJ (w.2.2 t k)).toInt32 = kI ((w.2.2 t k).toNat : Int) := by rw [kJ_int (by omega) (by omega)]; congr 1; omega
              by_cases b3 : (pD (w.2.2 t) (yD y) k).testBit (w.2.2 t k).toNat = true
              · simp (disch := omega) only [Tf.2.1, sz, ix_lit, inB_lit, decide_true, Bool.true_or, Bool.or_true, true_and, and_true, kI_add, kI_sub, kI_mul, tn_add, Int.toNat_natCast, Int.reduceToNat, kI_le, kI_lt, kI_inj, decide_eq_true_eq, Bool.not_eq_true', decide_eq_false_iff_not, not_true_eq_false, not_false_eq_true, Classical.not_not, Bool.false_eq_true, if_true, if_false, z0, bI_k0, bI_k1, isB_b, isB_0, isB_1, kI_long, kd_stI, ln_stI, rv_stI, z1, Tr_at_c ht F Wt Xt q3, cmp_lt0, cmp_ge0, kJ_lt, kJ_le, b1, B.S.k, B.S.i2, b2, ej, kI_bit, b3]
                rw [allB_no hk (by unfold okB; rw [b3]; simp)]
                (all_goals first | exact ⟨rfl, rfl⟩ | exact ⟨rfl, trivial⟩ | rfl | trivial)
              · have b3' : (pD (w.2.2 t) (yD y) k).testBit (w.2.2 t k).toNat = false := by simpa using b3
                have := ih (fun i hi => by
                  by_cases z : i = k
                  · rw [z]; exact okB_iff.mpr ⟨by omega, by omega, b3'⟩
                  · exact H i (by omega))
                simp (disch := omega) only [Tf.2.1, sz, ix_lit, inB_lit, decide_true, Bool.true_or, Bool.or_true, true_and, and_true, kI_add, kI_sub, kI_mul, tn_add, Int.toNat_natCast, Int.reduceToNat, kI_le, kI_lt, kI_inj, decide_eq_true_eq, Bool.not_eq_true', decide_eq_false_iff_not, not_true_eq_false, not_false_eq_true, Classical.not_not, Bool.false_eq_true, if_true, if_false, z0, bI_k0, bI_k1, isB_b, isB_0, isB_1, kI_long, kd_stI, ln_stI, rv_stI, z1, Tr_at_c ht F Wt Xt q3, cmp_lt0, cmp_ge0, kJ_lt, kJ_le, b1, B.S.k, B.S.i2, b2, ej, kI_bit, b3', kI_shl1, kI_or]
                exact this
      · rw [if_neg a2, if_neg (by omega)]
        (all_goals first | exact ⟨rfl, rfl⟩ | exact ⟨rfl, trivial⟩ | rfl | trivial)
def ySe (y : DY) (f : Nat → Int) (i : Nat) : DY := (pD f (yD y) i, pL f (yL y) i, yX y, yB y)
def mayE (s : ST) (y : DY) (f : Nat → Int) (hd hb i : Nat) : Bool := mayF s hd hb (f i).toNat (pD f (yD y) i) (pL f (yL y) i)
abbrev FS (T : Nat → Nat) (h h' : AH) : Prop := Fr (fun a _ => T a = 1 ∨ (67 ≤ a ∧ a ≤ 72)) JM h h'
theorem BX.fs {T : Nat → Nat} {s : ST} {p : Nat} {y : DY} {v : Int} {hs : List DY} {nx : Nat} {h h' : AH} (B : BX T s p y v hs nx h) (e : FS T h h') : BX T s p y v hs nx h' := B.scr e (fun a k w => by
  rcases w with w | w
  · exact Or.inl w
  · exact Or.inr (Or.inr (Or.inl (by omega))))
theorem XTs.fs {T : Nat → Nat} {w : TW} {h h' : AH} (X : XTs w h) (t : TF T) (e : FS T h h') : XTs w h' := X.fr e (fun a k h1 h2 => ⟨fun w => by have := t.two (a := a) (by omega) (by omega); omega, fun w => w⟩)
theorem FG.fs {T : Nat → Nat} {h h' : AH} (e : FG T h h') : FS T h h' := e.mono (fun _ _ w => Or.inl w) (fun _ _ w => w)
theorem FZ.fs {T : Nat → Nat} {h h' : AH} (e : FZ 68 h h') : FS T h h' := e.mono (fun _ _ w => Or.inr (by omega)) (fun _ _ w => w)
theorem Se_fits_g {T : Nat → Nat} {s : ST} {p : Nat} {y : DY} {v : Int} {hs : List DY} {nx : Nat} {h : AH} (B : BX T s p y v hs nx h) {w : TW} (X : XTs w h) (W : WTs w) {t : Nat} (ht : t < 4) (q3 : w.1 t ≠ -1) (ok : ∀ i, i < w.2.1 t → okB s (w.2.2 t) (yD y) i = true) {hd hb : Nat} (h1 : hd < 100) (h2 : hb < 100) : GI 5 m_Se_fits [.ref 67, .ref p, .ref 8, .ref (74 + 2 * t), .int (kI hd), .int (kI hb)] h (bI32 (allB (mayE s y (w.2.2 t) hd hb) (w.2.1 t) = true)) (FS T h) := by
  have F := B.F
  have n2 := B.S.wf.n12
  have Wt := W t ht
  have n40 := Wt.2.2.1
  refine GIo (s_Se_fits_0 ?_)
  simp (disch := omega) only [kd_67 F, rv_67_0 F, kd_68 F, decide_true, true_and]
  refine GV.use (Pg_copy_g F PG68 PG8 (by omega) B.P (kI_of _)) (by omega) (fun h1' e1 => ?_)
  suffices H : ∀ k, k ≤ w.2.1 t → ∀ (v' : Int) (h3 : AH), FS T h h3 → XP (ySe y (w.2.2 t) k) v' 68 h3 → (∀ i, i < k → mayE s y (w.2.2 t) hd hb i = true) → Safe 4 m_Se_fits (11, [.ref 67, .ref p, unV, .ref (74 + 2 * t), .int (kI hd), .int (kI hb), .int (kI k), unV], [], h3) (fun x h' => Eqv x (some (.int (bI32 (allB (mayE s y (w.2.2 t) hd hb) (w.2.1 t) = true)))) ∧ FS T h h') by
    exact H 0 (by omega) _ h1' (FZ.fs e1.1) e1.2 (fun i hi => by omega)
  refine down_ind (w.2.1 t) ?_ ?_
  · intro v' h3 e3 P3 H
    have F3 := e3.fix F
    have X3 := X.fs B.t e3 t ht
    have Tf := tr_fix F3 ht
    refine s_Se_fits_11 ?_
    simp (disch := omega) only [Tf.2.1, X3.sz q3, ix_lit, inB_lit, decide_true, Bool.true_or, Bool.or_true, true_and, and_true, kI_add, kI_sub, kI_mul, tn_add, Int.toNat_natCast, Int.reduceToNat, kI_le, kI_lt, kI_inj, decide_eq_true_eq, Bool.not_eq_true', decide_eq_false_iff_not, not_true_eq_false, not_false_eq_true, Classical.not_not, Bool.false_eq_true, if_true, if_false, z0, bI_k0, bI_k1, isB_b, isB_0, isB_1, kI_long, kd_stI, ln_stI, rv_stI, Int.le_refl, allB_iff.mpr H]
    exact ⟨rfl, e3⟩
  · intro k hk ih v' h3 e3 P3 H
    have B3 := B.fs e3
    have F3 := B3.F
    have X3 := X.fs B.t e3 t ht
    have Tf := tr_fix F3 ht
    have z1 : ¬ (w.2.1 t : Int) ≤ (k : Int) := by omega
    have o := okB_iff.mp (ok k hk)
    have okk := fun i (hi : i < k) => ok i (by omega)
    have hm : pD (w.2.2 t) (yD y) k < 4096 := Nat.lt_of_lt_of_le (pD_lt B.wy.1 okk) (Nat.pow_le_pow_right (n := 2) (by omega) n2)
    have hl := pL_ok B.wy.2.1 okk
    have ej : (kJ (w.2.2 t k)).toInt32 = kI ((w.2.2 t k).toNat : Int) := by rw [kJ_int (by omega) (by omega)]; congr 1; omega
    have P0 : ivA h3 68 0 = kI (pD (w.2.2 t) (yD y) k : Nat) := P3.i0
    have P1 : ivA h3 68 1 = kI (lx (pL (w.2.2 t) (yL y) k)) := P3.i1
    refine s_Se_fits_11 ?_
    simp (disch := omega) only [Tf.2.1, X3.sz q3, ix_lit, inB_lit, decide_true, Bool.true_or, Bool.or_true, true_and, and_true, kI_add, kI_sub, kI_mul, tn_add, Int.toNat_natCast, Int.reduceToNat, kI_le, kI_lt, kI_inj, decide_eq_true_eq, Bool.not_eq_true', decide_eq_false_iff_not, not_true_eq_false, not_false_eq_true, Classical.not_not, Bool.false_eq_true, if_true, if_false, z0, bI_k0, bI_k1, isB_b, isB_0, isB_1, kI_long, kd_stI, ln_stI, rv_stI, z1, Tr_at_c ht F3 Wt X3 q3, kd_67 F3, rv_67_0 F3, kd_68 F3, B3.S.k, ej, P0, P1]
    refine GI.use (Sh_allows_g B3.S h1 h2 (by omega) hm hl) (by omega) (fun h4 e4 => ?_)
    have F4 := e4.fix F3
    simp (disch := omega) only [ix_lit, inB_lit, decide_true, Bool.true_or, Bool.or_true, true_and, and_true, kI_add, kI_sub, kI_mul, tn_add, Int.toNat_natCast, Int.reduceToNat, kI_le, kI_lt, kI_inj, decide_eq_true_eq, Bool.not_eq_true', decide_eq_false_iff_not, not_true_eq_false, not_false_eq_true, Classical.not_not, Bool.false_eq_true, if_true, if_false, z0, bI_k0, bI_k1, isB_b, isB_0, isB_1, kI_long, kd_stI, ln_stI, rv_stI, kd_67 F4, rv_67_0 F4, kd_68 F4]
    by_cases z : mayF s hd hb (w.2.2 t k).toNat (pD (w.2.2 t) (yD y) k) (pL (w.2.2 t) (yL y) k) = true
    · rw [if_pos z]
      have P4 := P3.fg B.t PG68 e4
      refine GV.use (Pg_mark_g F4 PG68 P4 (by omega)) (by omega) (fun h5 e5 => ?_)
      refine ih _ h5 (e3.trans (e4.fs.trans (FZ.fs e5.1))) e5.2 (fun i hi => ?_)
      by_cases zi : i = k
      · rw [zi]; exact z
      · exact H i (by omega)
    · rw [if_neg z]
      have z' : mayE s y (w.2.2 t) hd hb k = false := by
        unfold mayE
        simpa using z
      rw [allB_no hk z']
      exact ⟨rfl, e3.trans e4.fs⟩
def habB (s : ST) (y : DY) (n : Nat) (f : Nat → Int) (hd : Nat) : Nat := bitsB (fun hb => allB (mayE s y f hd hb) n) 10
theorem habB_lt (s : ST) (y : DY) (n : Nat) (f : Nat → Int) (hd : Nat) : habB s y n f hd < 1024 := bitsB_lt _ 10
theorem Se_fitting_g {T : Nat → Nat} {s : ST} {p : Nat} {y : DY} {v : Int} {hs : List DY} {nx : Nat} {h : AH} (B : BX T s p y v hs nx h) {w : TW} (X : XTs w h) (W : WTs w) {t : Nat} (ht : t < 4) (q3 : w.1 t ≠ -1) (ok : ∀ i, i < w.2.1 t → okB s (w.2.2 t) (yD y) i = true) {hd : Nat} (h1 : hd < 100) : GI 6 m_Se_fitting [.ref 67, .ref p, .ref 8, .ref (74 + 2 * t), .int (kI hd)] h (kI (habB s y (w.2.1 t) (w.2.2 t) hd)) (FS T h) := by
  refine GIo (s_Se_fitting_0 ?_)
  suffices H : ∀ k, k ≤ 10 → ∀ (h3 : AH), FS T h h3 → Safe 5 m_Se_fitting (6, [.ref 67, .ref p, .ref 8, .ref (74 + 2 * t), .int (kI hd), .int (kI (bitsB (fun hb => allB (mayE s y (w.2.2 t) hd hb) (w.2.1 t)) k : Nat)), .int (kI k)], [], h3) (fun x h' => Eqv x (some (.int (kI (habB s y (w.2.1 t) (w.2.2 t) hd)))) ∧ FS T h h') by
    exact H 0 (by omega) h (Fr_rfl _ _ _)
  refine down_ind 10 ?_ ?_
  · intro h3 e3
    refine s_Se_fitting_6 ?_
    simp (disch := omega) only [ix_lit, inB_lit, decide_true, Bool.true_or, Bool.or_true, true_and, and_true, kI_add, kI_sub, kI_mul, tn_add, Int.toNat_natCast, Int.reduceToNat, kI_le, kI_lt, kI_inj, decide_eq_true_eq, Bool.not_eq_true', decide_eq_false_iff_not, not_true_eq_false, not_false_eq_true, Classical.not_not, Bool.false_eq_true, if_true, if_false, z0, bI_k0, bI_k1, isB_b, isB_0, isB_1, kI_long, kd_stI, ln_stI, rv_stI, Int.cast_ofNat_Int, Int.le_refl]
    exact ⟨rfl, e3⟩
  · intro k hk ih h3 e3
    have B3 := B.fs e3
    have X3 := X.fs B.t e3
    refine s_Se_fitting_6 ?_
    have z1 : ¬ (10 : Int) ≤ (k : Int) := by omega
    simp (disch := omega) only [ix_lit, inB_lit, decide_true, Bool.true_or, Bool.or_true, true_and, and_true, kI_add, kI_sub, kI_mul, tn_add, Int.toNat_natCast, Int.reduceToNat, kI_le, kI_lt, kI_inj, decide_eq_true_eq, Bool.not_eq_true', decide_eq_false_iff_not, not_true_eq_false, not_false_eq_true, Classical.not_not, Bool.false_eq_true, if_true, if_false, z0, bI_k0, bI_k1, isB_b, isB_0, isB_1, kI_long, kd_stI, ln_stI, rv_stI, z1, kd_67 B3.F]
    refine GI.use (Se_fits_g B3 X3 W ht q3 ok h1 (by omega)) (by omega) (fun h4 e4 => ?_)
    have := ih h4 (e3.trans e4)
    rw [bitsB_s] at this
    simp (disch := omega) only [ix_lit, inB_lit, decide_true, Bool.true_or, Bool.or_true, true_and, and_true, kI_add, kI_sub, kI_mul, tn_add, Int.toNat_natCast, Int.reduceToNat, kI_le, kI_lt, kI_inj, decide_eq_true_eq, Bool.not_eq_true', decide_eq_false_iff_not, not_true_eq_false, not_false_eq_true, Classical.not_not, Bool.false_eq_true, if_true, if_false, z0, bI_k0, bI_k1, isB_b, isB_0, isB_1, kI_long, kd_stI, ln_stI, rv_stI, kI_shl1, kI_or]
    by_cases z : allB (mayE s y (w.2.2 t) hd k) (w.2.1 t) = true
    · rw [if_pos z] at this
      rw [if_neg (fun w => w z)]
      exact this
    · rw [if_neg z, Nat.or_zero] at this
      rw [if_pos z]
      exact this
def mayN (s : ST) (y : DY) (hd c set : Nat) : Nat := cnt (fun hb => set.testBit hb && mayF s hd hb c (yD y) (yL y)) 10
def lesF (s : ST) (y : DY) (hd c set : Nat) : Int := if (pop set : Int) - mayN s y hd c set < mayN s y hd c set then (pop set : Int) - mayN s y hd c set else mayN s y hd c set
theorem cnt_s (p : Nat → Bool) (k : Nat) : cnt p (k + 1) = cnt p k + (if p k = true then 1 else 0) := rfl
theorem Se_lesserPart_g {T : Nat → Nat} {s : ST} {p : Nat} {y : DY} {v : Int} {hs : List DY} {nx : Nat} {h : AH} (B : BX T s p y v hs nx h) {hd c set : Nat} (h1 : hd < 100) (hc : c < sN s) (hs : set < 1024) : GI 5 m_Se_lesserPart [.ref p, .ref 8, .int (kI hd), .int (kI c), .int (kI set)] h (kI (lesF s y hd c set)) (FG T h) := by
  have n2 := B.S.wf.n12
  have hm := B.wy.m12 B.S.wf
  refine GIo (s_Se_lesserPart_0 ?_)
  suffices H : ∀ k, k ≤ 10 → ∀ (h3 : AH), FG T h h3 → Safe 4 m_Se_lesserPart (6, [.ref p, .ref 8, .int (kI hd), .int (kI c), .int (kI set), .int (kI (cnt (fun hb => set.testBit hb && mayF s hd hb c (yD y) (yL y)) k : Nat)), .int (kI k)], [], h3) (fun x h' => Eqv x (some (.int (kI (lesF s y hd c set)))) ∧ FG T h h') by
    exact H 0 (by omega) h (FG_rfl T h)
  refine down_ind 10 ?_ ?_
  · intro h3 e3
    have c1 : mayN s y hd c set ≤ 10 := cnt_le _ _
    have c2 := pop_le set
    refine s_Se_lesserPart_6 ?_
    simp (disch := omega) only [ix_lit, inB_lit, decide_true, Bool.true_or, Bool.or_true, true_and, and_true, kI_add, kI_sub, kI_mul, tn_add, Int.toNat_natCast, Int.reduceToNat, kI_le, kI_lt, kI_inj, decide_eq_true_eq, Bool.not_eq_true', decide_eq_false_iff_not, not_true_eq_false, not_false_eq_true, Classical.not_not, Bool.false_eq_true, if_true, if_false, z0, bI_k0, bI_k1, isB_b, isB_0, isB_1, kI_long, kd_stI, ln_stI, rv_stI, Int.cast_ofNat_Int, Int.le_refl, In_bitCount_c]
    refine ⟨?_, e3⟩
    show some (Value.int _) = some (Value.int _)
    congr 2
    unfold lesF
    have e : (kI ((pop set : Int) - mayN s y hd c set) < kI (mayN s y hd c set)) ↔ (pop set : Int) - mayN s y hd c set < mayN s y hd c set := kI_lt (by omega) (by omega) (by omega) (by omega)
    show (if kI ((pop set : Int) - mayN s y hd c set) < kI (mayN s y hd c set) then kI ((pop set : Int) - mayN s y hd c set) else kI (mayN s y hd c set)) = _
    by_cases q : (pop set : Int) - mayN s y hd c set < mayN s y hd c set
    · rw [if_pos (e.mpr q), if_pos q]
    · rw [if_neg (fun w => q (e.mp w)), if_neg q]
  · intro k hk ih h3 e3
    have B3 := B.scr e3 (fun a k w => Or.inl w)
    refine s_Se_lesserPart_6 ?_
    have z1 : ¬ (10 : Int) ≤ (k : Int) := by omega
    rw [cnt_s] at ih
    by_cases z : set.testBit k = true
    · simp (disch := omega) only [ix_lit, inB_lit, decide_true, Bool.true_or, Bool.or_true, true_and, and_true, kI_add, kI_sub, kI_mul, tn_add, Int.toNat_natCast, Int.reduceToNat, kI_le, kI_lt, kI_inj, decide_eq_true_eq, Bool.not_eq_true', decide_eq_false_iff_not, not_true_eq_false, not_false_eq_true, Classical.not_not, Bool.false_eq_true, if_true, if_false, z0, bI_k0, bI_k1, isB_b, isB_0, isB_1, kI_long, kd_stI, ln_stI, rv_stI, z1, kI_bit, z, kd_8 B3.F, B3.S.k, B3.P.i0, B3.P.i1]
      refine GI.use (Sh_allows_g B3.S h1 (by omega) hc hm B.wy.2.1) (by omega) (fun h4 e4 => ?_)
      have := ih h4 (e3.trans e4)
      rw [z, Bool.true_and] at this
      simp (disch := omega) only [ix_lit, inB_lit, decide_true, Bool.true_or, Bool.or_true, true_and, and_true, kI_add, kI_sub, kI_mul, tn_add, Int.toNat_natCast, Int.reduceToNat, kI_le, kI_lt, kI_inj, decide_eq_true_eq, Bool.not_eq_true', decide_eq_false_iff_not, not_true_eq_false, not_false_eq_true, Classical.not_not, Bool.false_eq_true, if_true, if_false, z0, bI_k0, bI_k1, isB_b, isB_0, isB_1, kI_long, kd_stI, ln_stI, rv_stI]
      by_cases zm : mayF s hd k c (yD y) (yL y) = true
      · rw [if_pos zm] at this
        rw [if_neg (fun w => w zm)]
        exact this
      · rw [if_neg zm, Nat.add_zero] at this
        rw [if_pos zm]
        exact this
    · have z' : set.testBit k = false := by simpa using z
      have := ih h3 e3
      rw [z', Bool.false_and, if_neg (by simp), Nat.add_zero] at this
      simp (disch := omega) only [ix_lit, inB_lit, decide_true, Bool.true_or, Bool.or_true, true_and, and_true, kI_add, kI_sub, kI_mul, tn_add, Int.toNat_natCast, Int.reduceToNat, kI_le, kI_lt, kI_inj, decide_eq_true_eq, Bool.not_eq_true', decide_eq_false_iff_not, not_true_eq_false, not_false_eq_true, Classical.not_not, Bool.false_eq_true, if_true, if_false, z0, bI_k0, bI_k1, isB_b, isB_0, isB_1, kI_long, kd_stI, ln_stI, rv_stI, z1, kI_bit, z']
      exact this
def lokF (s : ST) (y : DY) (hd set : Nat) : Nat → Int × Int
  | 0 => (-1, -1)
  | k + 1 => if set = 0 ∨ (yD y).testBit k = true then lokF s y hd set k else if (lokF s y hd set k).2 < lesF s y hd k set then ((k : Int), lesF s y hd k set) else lokF s y hd set k
theorem lesF_b (s : ST) (y : DY) (hd c set : Nat) : -10 ≤ lesF s y hd c set ∧ lesF s y hd c set ≤ 12 := by
  have c1 : mayN s y hd c set ≤ 10 := cnt_le _ _
  have c2 := pop_le set
  unfold lesF
  split <;> omega
theorem lokF_b (s : ST) (y : DY) (hd set : Nat) : ∀ k, -10 ≤ (lokF s y hd set k).2 ∧ (lokF s y hd set k).2 ≤ 12
  | 0 => by show -10 ≤ (-1 : Int) ∧ (-1 : Int) ≤ 12; omega
  | k + 1 => by
    unfold lokF
    split
    · exact lokF_b s y hd set k
    · split
      · exact lesF_b s y hd k set
      · exact lokF_b s y hd set k
theorem Se_telling_g {T : Nat → Nat} {s : ST} {p : Nat} {y : DY} {v : Int} {hs : List DY} {nx : Nat} {h : AH} (B : BX T s p y v hs nx h) {w : TW} (X : XTs w h) (W : WTs w) {t : Nat} (ht : t < 4) (q3 : w.1 t ≠ -1) (ok : ∀ i, i < w.2.1 t → okB s (w.2.2 t) (yD y) i = true) {hd : Nat} (h1 : hd < 100) : GI 7 m_Se_telling [.ref 67, .ref p, .ref 8, .ref (74 + 2 * t), .int (kI hd)] h (kI (lokF s y hd (habB s y (w.2.1 t) (w.2.2 t) hd) (sN s)).1) (FS T h) := by
  have n2 := B.S.wf.n12
  have hm := B.wy.m12 B.S.wf
  refine GIo (s_Se_telling_0 ?_)
  refine ⟨by rw [kd_67 B.F]; rfl, ?_⟩
  refine GI.use (Se_fitting_g B X W ht q3 ok h1) (by omega) (fun h2 e2 => ?_)
  have hb := habB_lt s y (w.2.1 t) (w.2.2 t) hd
  generalize habB s y (w.2.1 t) (w.2.2 t) hd = set at hb ⊢
  suffices H : ∀ k, k ≤ sN s → ∀ (h3 : AH), FS T h h3 → Safe 6 m_Se_telling (20, [unV, .ref p, .ref 8, unV, .int (kI hd), .int (kI set), .int (kI (lokF s y hd set k).2), .int (kI (lokF s y hd set k).1), .int (kI k), unV], [], h3) (fun x h' => Eqv x (some (.int (kI (lokF s y hd set (sN s)).1))) ∧ FS T h h') by
    exact H 0 (by omega) h2 e2
  refine down_ind (sN s) ?_ ?_
  · intro h3 e3
    have B3 := B.fs e3
    refine s_Se_telling_20 ?_
    simp (disch := omega) only [B3.S.k, B3.S.i2, ix_lit, inB_lit, decide_true, Bool.true_or, Bool.or_true, true_and, and_true, kI_add, kI_sub, kI_mul, tn_add, Int.toNat_natCast, Int.reduceToNat, kI_le, kI_lt, kI_inj, decide_eq_true_eq, Bool.not_eq_true', decide_eq_false_iff_not, not_true_eq_false, not_false_eq_true, Classical.not_not, Bool.false_eq_true, if_true, if_false, z0, bI_k0, bI_k1, isB_b, isB_0, isB_1, kI_long, kd_stI, ln_stI, rv_stI, Int.le_refl]
    exact ⟨rfl, e3⟩
  · intro k hk ih h3 e3
    have B3 := B.fs e3
    have F3 := B3.F
    have z1 : ¬ (sN s : Int) ≤ (k : Int) := by omega
    have e : lokF s y hd set (k + 1) = if set = 0 ∨ (yD y).testBit k = true then lokF s y hd set k else if (lokF s y hd set k).2 < lesF s y hd k set then ((k : Int), lesF s y hd k set) else lokF s y hd set k := rfl
    rw [e] at ih
    refine s_Se_telling_20 ?_
    by_cases z0' : set = 0
    · have z0i : (set : Int) = 0 := by omega
      simp (disch := omega) only [B3.S.k, B3.S.i2, ix_lit, inB_lit, decide_true, Bool.true_or, Bool.or_true, true_and, and_true, kI_add, kI_sub, kI_mul, tn_add, Int.toNat_natCast, Int.reduceToNat, kI_le, kI_lt, kI_inj, decide_eq_true_eq, Bool.not_eq_true', decide_eq_false_iff_not, not_true_eq_false, not_false_eq_true, Classical.not_not, Bool.false_eq_true, if_true, if_false, z0, bI_k0, bI_k1, isB_b, isB_0, isB_1, kI_long, kd_stI, ln_stI, rv_stI, z1, z0i]
      have low : ∀ k, (lokF s y hd set k).1 = -1 := by
        intro k
        induction k with
        | zero => rfl
        | succ k ih =>
          unfold lokF
          rw [if_pos (Or.inl z0')]
          exact ih
      rw [low, low]
      exact ⟨rfl, e3⟩
    · have z0i : ¬ (set : Int) = 0 := by omega
      by_cases zd : (yD y).testBit k = true
      · simp only [if_pos (Or.inr zd : set = 0 ∨ (yD y).testBit k = true)] at ih
        simp (disch := omega) only [B3.S.k, B3.S.i2, ix_lit, inB_lit, decide_true, Bool.true_or, Bool.or_true, true_and, and_true, kI_add, kI_sub, kI_mul, tn_add, Int.toNat_natCast, Int.reduceToNat, kI_le, kI_lt, kI_inj, decide_eq_true_eq, Bool.not_eq_true', decide_eq_false_iff_not, not_true_eq_false, not_false_eq_true, Classical.not_not, Bool.false_eq_true, if_true, if_false, z0, bI_k0, bI_k1, isB_b, isB_0, isB_1, kI_long, kd_stI, ln_stI, rv_stI, z1, z0i, kd_8 F3, Pg_isDrawn_c F3 PG8 B3.P hm, zd]
        exact ih h3 e3
      · have zd' : (yD y).testBit k = false := by simpa using zd
        simp only [if_neg (fun z => z.elim z0' zd : ¬ (set = 0 ∨ (yD y).testBit k = true))] at ih
        simp (disch := omega) only [B3.S.k, B3.S.i2, ix_lit, inB_lit, decide_true, Bool.true_or, Bool.or_true, true_and, and_true, kI_add, kI_sub, kI_mul, tn_add, Int.toNat_natCast, Int.reduceToNat, kI_le, kI_lt, kI_inj, decide_eq_true_eq, Bool.not_eq_true', decide_eq_false_iff_not, not_true_eq_false, not_false_eq_true, Classical.not_not, Bool.false_eq_true, if_true, if_false, z0, bI_k0, bI_k1, isB_b, isB_0, isB_1, kI_long, kd_stI, ln_stI, rv_stI, z1, z0i, kd_8 F3, Pg_isDrawn_c F3 PG8 B3.P hm, zd']
        refine GI.use (Se_lesserPart_g B3 h1 hk hb) (by omega) (fun h4 e4 => ?_)
        have l1 := lesF_b s y hd k set
        have l2 := lokF_b s y hd set k
        have := ih h4 (e3.trans e4.fs)
        simp (disch := omega) only [ix_lit, inB_lit, decide_true, Bool.true_or, Bool.or_true, true_and, and_true, kI_add, kI_sub, kI_mul, tn_add, Int.toNat_natCast, Int.reduceToNat, kI_le, kI_lt, kI_inj, decide_eq_true_eq, Bool.not_eq_true', decide_eq_false_iff_not, not_true_eq_false, not_false_eq_true, Classical.not_not, Bool.false_eq_true, if_true, if_false, z0, bI_k0, bI_k1, isB_b, isB_0, isB_1, kI_long, kd_stI, ln_stI, rv_stI]
        by_cases zl : (lokF s y hd set k).2 < lesF s y hd k set
        · rw [if_pos zl] at this
          rw [if_neg (by omega)]
          exact this
        · rw [if_neg zl] at this
          rw [if_pos (by omega)]
          exact this
