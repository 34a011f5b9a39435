/-! the chances of the program: how a weight is spread -/
abbrev FCh (T : Nat → Nat) (a : Nat) (h h' : AH) : Prop := Fr (fun x _ => T x = 1) (fun x _ => x = 66 ∨ x = 46 + 3 * a ∨ x = 47 + 3 * a) h h'
def cdF (s : ST) (mv : Nat → Nat → Nat) (n c m l : Nat) : Nat := if c < sN s ∧ m.testBit c = false then cnF mv n c m l else 0
def ceF (s : ST) (mv : Nat → Nat → Nat) (n c m j : Nat) : Nat := (if c = j then 27720 ^ n else 0) + cdF s mv n c (m ||| 2 ^ j) j
theorem cnF_in (mv : Nat → Nat → Nat) {n c m l : Nat} (h : m.testBit c = true) : cnF mv n c m l = 27720 ^ n := by
  cases n with
  | zero => show (if m.testBit c = true then 1 else 0) = 1; rw [if_pos h]
  | succ n => rw [cnF_s, if_pos h]
theorem cd_0 (s : ST) (mv : Nat → Nat → Nat) (c m l : Nat) : cdF s mv 0 c m l = 0 := by
  unfold cdF
  split
  · rename_i h
    show (if m.testBit c = true then 1 else 0) = 0
    rw [if_neg (by rw [h.2]; decide)]
  · rfl
theorem cd_s {s : ST} (w : WFS s) {a hb n c m l : Nat} : cdF s (mvF s a hb) (n + 1) c m l = sumF (fun j => if (mvF s a hb m l).testBit j = true then 27720 / pop (mvF s a hb m l) * ceF s (mvF s a hb) n c m j else 0) (sN s) := by
  have n2 := w.n12
  by_cases q : c < sN s ∧ m.testBit c = false
  · unfold cdF
    rw [if_pos q, cnF_s, if_neg (by rw [q.2]; decide), sumF_to (k := sN s) n2 (fun x h1 h2 => by
      rw [if_neg]
      intro z
      have := mvF_ok w z
      omega)]
    refine sumF_congr (fun j hj => ?_)
    by_cases z : (mvF s a hb m l).testBit j = true
    · rw [if_pos z, if_pos z]
      congr 1
      unfold ceF cdF
      by_cases e : c = j
      · rw [if_pos e, ← e, cnF_in _ (or_self_bit m c), if_neg (fun y => by rw [or_self_bit] at y; exact absurd y.2 (by decide)), Nat.add_zero]
      · rw [if_neg e, if_pos ⟨q.1, by rw [Nat.testBit_or, q.2, Nat.testBit_two_pow_of_ne (fun y => e y.symm)]; rfl⟩, Nat.zero_add]
    · rw [if_neg z, if_neg z]
  · have e1 : cdF s (mvF s a hb) (n + 1) c m l = 0 := by unfold cdF; rw [if_neg q]
    rw [e1]
    symm
    refine sumF_0 (fun j hj => ?_)
    by_cases z : (mvF s a hb m l).testBit j = true
    · have zo := mvF_ok w z
      have e2 : ceF s (mvF s a hb) n c m j = 0 := by
        unfold ceF cdF
        have ne : c ≠ j := fun y => q (by rw [y]; exact zo)
        rw [if_neg ne, if_neg (fun y => q ⟨y.1, by
          have := y.2
          rw [Nat.testBit_or] at this
          cases hb : m.testBit c with
          | false => rfl
          | true => rw [hb] at this; exact absurd this (by simp)⟩)]
      rw [if_pos z, e2, Nat.mul_zero]
    · rw [if_neg z]
theorem d27 : ∀ k : Nat, k < 13 → k ≠ 0 → 27720 = 27720 / k * k := by decide
theorem jz (x : Int64) : x + kJ 0 = x := by
  have : kJ 0 = 0 := rfl
  rw [this, Int64.add_zero]
theorem kj_2 (a b : Nat) : kJ (a : Int) + kJ (b : Int) = kJ ((a + b : Nat) : Int) := by
  rw [kJ_add]
  rfl
theorem kj_3 (x : Int64) (S Y W C : Nat) : x + kJ (S : Int) + kJ ((Y * W : Nat) : Int) + kJ ((W * C : Nat) : Int) = x + kJ ((S + W * (Y + C) : Nat) : Int) := by
  rw [Int64.add_assoc, Int64.add_assoc, kj_2, kj_2, Nat.mul_add, Nat.mul_comm W Y]
theorem Ch_spread_g {T : Nat → Nat} (t : TF T) {s : ST} {p a hb : Nat} (ha : a < 4) (hb9 : hb ≤ 9) : ∀ n, n ≤ 4 → ∀ (m l w : Nat) (h : AH), Fix h → rvA h 65 1 = p → ivA h 65 3 = kI a → Perm T s p a hb h → m < 2 ^ sN s → (l = 12 ∨ l < sN s) → 27720 ^ n * w < 9223372036854775808 → GV (n + 6) m_Ch_spread [.ref 65, .int (kI m), .int (kI (lx l)), .long (kJ ((27720 ^ n * w : Nat) : Int)), .int (kI n)] h (fun h' => FCh T a h h' ∧ Perm T s p a hb h' ∧ ∀ c, jvA h' 66 c = jvA h 66 c + kJ ((w * cdF s (mvF s a hb) n c m l : Nat) : Int)) := by
  intro n
  induction n with
  | zero =>
    intro hn m l w h F r1 i3 P hm hl hw
    refine GVo (s_Ch_spread_0 ?_)
    rw [if_pos (by decide)]
    refine ⟨rfl, Fr_rfl _ _ _, P, fun c => ?_⟩
    rw [cd_0, Nat.mul_zero]
    exact (jz _).symm
  | succ n ih =>
    intro hn m l w h F r1 i3 P hm hl hw
    obtain ⟨ask, hol, PS0⟩ := P
    have S := PS0.S
    have wf := S.wf
    have n2 := wf.n12
    have p12 : 2 ^ sN s ≤ 2 ^ 12 := Nat.pow_le_pow_right (by omega) n2
    have p12' : (2 : Nat) ^ 12 = 4096 := rfl
    have bp := S.bp
    have pf := pe_fix F ha
    refine GVo (s_Ch_spread_0 ?_)
    rw [if_neg (by rw [decide_eq_true_eq, z0, kI_le (by omega) (by omega) (by omega) (by omega)]; omega), kd_65 F, r1, if_pos (by rw [Bool.not_eq_true', decide_eq_false_iff_not]; omega), rv_65_0 F, kd_44 F, ln_44 F, i3, ix_kI (by omega), S.k]
    refine ⟨rfl, rfl, rfl, rfl, rfl, inB_kI (by omega) (by omega), rfl, rfl, ?_⟩
    rw [Sh_nearness_c S (by omega) hm, kd_65 F, r1, S.k]
    refine ⟨rfl, rfl, ?_⟩
    rw [Sh_left_c S (by omega) (by omega), pf.1, pf.2.1]
    refine ⟨rfl, ?_⟩
    refine GI.use (Pe_open_g t F ha hb9 PS0 hm hl) (by omega) (fun h1 e1 => ?_)
    obtain ⟨e1, ask1, hol1, P1⟩ := e1
    obtain ⟨mv, hmv⟩ : ∃ mv, mv = mvF s a hb m l := ⟨_, rfl⟩
    have mlt := mvF_lt wf a hb m l
    rw [← hmv] at mlt ⊢
    have f1 : FCh T a h h1 := e1.mono (fun _ _ z => z) (fun _ _ z => Or.inr z)
    have j1 : ∀ c, jvA h1 66 c = jvA h 66 c := fun c => e1.2.2.2.2.2.2 66 c (by omega)
    rw [In_bitCount_c (by omega) (by omega)]
    have pl := pop_le mv
    by_cases q : pop mv = 0
    · rw [if_neg (by rw [q]; decide)]
      refine ⟨rfl, f1, ⟨ask1, hol1, P1⟩, fun c => ?_⟩
      rw [j1, cd_s wf, sumF_0 (fun j hj => by
        rw [if_neg]
        intro z
        have := pop_pos (show j < 12 by omega) z
        rw [← hmv] at this
        omega), Nat.mul_zero]
      exact (jz _).symm
    rw [if_pos (by rw [Bool.not_eq_true', decide_eq_false_iff_not, z0, kI_inj (by omega) (by omega) (by omega) (by omega)]; omega)]
    obtain ⟨W, hW⟩ : ∃ W, W = 27720 / pop mv * w := ⟨_, rfl⟩
    have d := d27 (pop mv) (by omega) q
    have dv : 27720 ^ (n + 1) * w / pop mv = 27720 ^ n * W := by
      have e : 27720 ^ (n + 1) * w = 27720 ^ n * W * pop mv := by
        rw [hW, Nat.pow_succ]
        generalize 27720 ^ n = X
        rw [Nat.mul_assoc X, Nat.mul_assoc X, Nat.mul_right_comm, ← d]
      rw [e, Nat.mul_div_cancel _ (by omega)]
    have hWl : 27720 ^ n * W < 9223372036854775808 := by
      rw [← dv]
      exact Nat.lt_of_le_of_lt (Nat.div_le_self _ _) hw
    suffices H : ∀ k, k ≤ sN s → ∀ h2, FCh T a h h2 → Perm T s p a hb h2 → (∀ c, jvA h2 66 c = jvA h 66 c + kJ ((w * sumF (fun j => if mv.testBit j = true then 27720 / pop mv * ceF s (mvF s a hb) n c m j else 0) k : Nat) : Int)) → Safe (n + 6) m_Ch_spread (60, [.ref 65, .int (kI m), unV, .long (kJ ((27720 ^ (n + 1) * w : Nat) : Int)), unV, .int (kI ((n + 1 : Nat) : Int)), .int (kI mv), .int (kI (pop mv : Nat)), .int (kI k)], [], h2) (fun v h' => Eqv v none ∧ FCh T a h h' ∧ Perm T s p a hb h' ∧ ∀ c, jvA h' 66 c = jvA h 66 c + kJ ((w * cdF s (mvF s a hb) (n + 1) c m l : Nat) : Int)) by
      exact H 0 (by omega) h1 f1 ⟨ask1, hol1, P1⟩ (fun c => by
        rw [j1]
        exact (jz _).symm)
    have T65 : T 65 = 2 := t.two (by omega) (by omega)
    have cell : ∀ h2, FCh T a h h2 → rvA h2 65 1 = p ∧ ivA h2 65 3 = kI a := fun h2 e => ⟨by rw [e.2.2.1]; exact r1, by rw [e.2.2.2.2.2.1 65 3 (by omega)]; exact i3⟩
    refine down_ind (sN s) ?_ ?_
    · intro h2 f2 P2 J2
      have F2 := f2.fix F
      obtain ⟨a2, b2, Q2⟩ := P2
      refine s_Ch_spread_60 ?_
      rw [kd_65 F2, (cell h2 f2).1, Q2.S.k, Q2.S.i2, if_pos (by rw [decide_eq_true_eq, kI_le (by omega) (by omega) (by omega) (by omega)]; omega)]
      refine ⟨rfl, rfl, rfl, f2, ⟨a2, b2, Q2⟩, fun c => ?_⟩
      rw [J2, cd_s wf, ← hmv]
    · intro k hk ihk h2 f2 P2 J2
      have F2 := f2.fix F
      have P2' := P2
      obtain ⟨a2, b2, Q2⟩ := P2
      refine s_Ch_spread_60 ?_
      rw [kd_65 F2, (cell h2 f2).1, Q2.S.k, Q2.S.i2, if_neg (by rw [decide_eq_true_eq, kI_le (by omega) (by omega) (by omega) (by omega)]; omega), kI_bit (by omega) (by omega)]
      refine ⟨rfl, rfl, ?_⟩
      by_cases qb : mv.testBit k = true
      · have zo := mvF_ok wf (hmv ▸ qb)
        rw [if_neg (by rw [dec_b0]; exact fun z => z qb), rv_65_5 F2, kd_66 F2, ln_66 F2, kI_long (by omega) (by omega), ix_kI (by omega), kJ_ndiv hw (by omega) (by omega), dv]
        have nz : (!decide (kJ ((pop mv : Nat) : Int) = 0)) = true := by
          rw [Bool.not_eq_true', decide_eq_false_iff_not]
          intro z
          have z' : kJ ((pop mv : Nat) : Int) = kJ 0 := z
          rw [kJ_inj (by omega) (by omega) (by omega) (by omega)] at z'
          omega
        have e3 : FCh T a h2 (stJ h2 66 k (jvA h2 66 k + kJ ((27720 ^ n * W : Nat) : Int))) := (Fr_rfl _ _ _).stJ (Or.inl rfl) _
        obtain ⟨h3, h3e⟩ : ∃ h3, h3 = stJ h2 66 k (jvA h2 66 k + kJ ((27720 ^ n * W : Nat) : Int)) := ⟨_, rfl⟩
        have j3 : ∀ c, jvA h3 66 c = if c = k then jvA h2 66 k + kJ ((27720 ^ n * W : Nat) : Int) else jvA h2 66 c := fun c => by
          rw [h3e, jv_stJ]
          by_cases z : c = k
          · rw [if_pos ⟨rfl, z⟩, if_pos z]
          · rw [if_neg (fun y => z y.2), if_neg z]
        rw [← h3e] at e3 ⊢
        have f3 := f2.trans e3
        have F3 := f3.fix F
        have e3' : Fr I0 (fun x _ => x = 66) h2 h3 := by rw [h3e]; exact (Fr_rfl I0 (fun x _ => x = 66) h2).stJ rfl _
        have P3 : Perm T s p a hb h3 := P2'.fr e3' (fun x k z => z.elim) (fun k => ⟨by omega, by omega⟩)
        rw [kd_65 F3]
        refine ⟨rfl, rfl, inB_kI (by omega) (by omega), nz, rfl, inB_kI (by omega) (by omega), nz, rfl, ?_⟩
        have es : kI ((n + 1 : Nat) : Int) - kI 1 = kI (n : Int) := by rw [kI_sub]; congr 1; omega
        have lk : kI (k : Int) = kI (lx k) := by unfold lx; rw [if_neg (by omega)]
        rw [kI_shl1 (by omega), kI_or, es]
        have ov : m ||| 2 ^ k < 2 ^ sN s := or_lt2 hm hk
        have call := ih (by omega) (m ||| 2 ^ k) k W h3 F3 (cell h3 f3).1 (cell h3 f3).2 P3 ov (Or.inr hk) hWl
        rw [← lk] at call
        refine GV.use call (by omega) (fun h4 e4 => ?_)
        obtain ⟨e4, P4, J4⟩ := e4
        rw [kI_add]
        refine ihk h4 (f3.trans e4) P4 (fun c => ?_)
        rw [J4, j3, sumF_s, if_pos qb, Nat.mul_add]
        have hx : w * (27720 / pop mv * ceF s (mvF s a hb) n c m k) = W * ceF s (mvF s a hb) n c m k := by rw [hW, ← Nat.mul_assoc, Nat.mul_comm w]
        rw [hx]
        unfold ceF
        by_cases z : c = k
        · rw [if_pos z, if_pos z, z, J2 k]
          exact kj_3 _ _ _ _ _
        · rw [if_neg z, if_neg z, J2 c, Int64.add_assoc, kj_2, Nat.zero_add]
          rfl
      · rw [if_pos (by rw [dec_b0]; exact qb), kI_add]
        refine ihk h2 f2 P2' (fun c => ?_)
        rw [J2, sumF_s, if_neg qb, Nat.add_zero]
