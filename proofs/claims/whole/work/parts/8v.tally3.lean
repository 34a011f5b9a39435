/-! counting rows: the sums that are told -/
theorem Wy_0 {s : ST} (w : WFS s) {y : DY} (wy : WFY s y) {a b m l : Nat} (h : 2 ^ sN s ≤ m) : Wy s y a b tt1 m l = 0 := by
  by_cases z : 0 < Wy s y a b tt1 m l
  · have := (Wy_l w wy z).2.1
    omega
  · omega
theorem sumF_up {f : Nat → Nat} {k : Nat} : ∀ t, (∀ x, k ≤ x → x < k + t → f x = 0) → sumF f (k + t) = sumF f k
  | 0, _ => rfl
  | t + 1, h => by
    rw [show k + (t + 1) = (k + t) + 1 by omega, sumF_s, sumF_up t (fun x h1 h2 => h x h1 (by omega)), h (k + t) (by omega) (by omega), Nat.add_zero]
theorem sumF_to {f : Nat → Nat} {k n : Nat} (hk : k ≤ n) (h : ∀ x, k ≤ x → x < n → f x = 0) : sumF f n = sumF f k := by
  have := sumF_up (f := f) (k := k) (n - k) (fun x h1 h2 => h x h1 (by omega))
  rw [show k + (n - k) = n by omega] at this
  exact this
theorem TT_0 {s : ST} {y : DY} {a b m : Nat} (h : ∀ l, ¬ 0 < Wy s y a b tt1 m l) : TT s y a b m = 0 := sumF_0 (fun k _ => by have := h k; omega)
theorem E0_0 {s : ST} {y : DY} {a b m : Nat} (h : ∀ l, ¬ 0 < Wy s y a b tt1 m l) : E0 s y a b m = 0 := sumF_0 (fun k _ => by
  have := h k
  split <;> omega)
def rwF (s : ST) (y : DY) (a b n m : Nat) : Nat := if pop m - pop (yD y) = n then TT s y a b m else 0
theorem row_sum {s : ST} (w : WFS s) {y : DY} (wy : WFY s y) {a n : Nat} : rowV s y a n = sumF (rwF s y a a n) (2 ^ sN s) := by
  have p12 : 2 ^ sN s ≤ 2 ^ 12 := Nat.pow_le_pow_right (n := 2) (by omega) w.n12
  rw [show (2 : Nat) ^ 12 = 4096 from rfl] at p12
  have e1 : rowV s y a n = sumF (rwF s y a a n) 4096 := by
    unfold rowV
    rw [show (53248 : Nat) = 13 * 4096 from rfl, sumF_flat]
    refine sumF_congr (fun m _ => ?_)
    show sumF (fun l => if pop ((13 * m + l) / 13) = n + pop (yD y) then Wy s y a a tt1 ((13 * m + l) / 13) ((13 * m + l) % 13) else 0) 13 = _
    have e : sumF (fun l => if pop ((13 * m + l) / 13) = n + pop (yD y) then Wy s y a a tt1 ((13 * m + l) / 13) ((13 * m + l) % 13) else 0) 13 = sumF (fun l => if pop m = n + pop (yD y) then Wy s y a a tt1 m l else 0) 13 := sumF_congr (fun l hl => by
      rw [show (13 * m + l) / 13 = m by omega, show (13 * m + l) % 13 = l by omega])
    rw [e]
    unfold rwF TT
    by_cases ex : ∃ l, 0 < Wy s y a a tt1 m l
    · obtain ⟨l, hl⟩ := ex
      have px := pop_xor (Wy_l w wy hl).2.2
      by_cases q : pop m = n + pop (yD y)
      · rw [if_pos (show pop m - pop (yD y) = n by omega)]
        exact sumF_congr (fun l _ => by rw [if_pos q])
      · rw [if_neg (show ¬ pop m - pop (yD y) = n by omega)]
        exact sumF_0 (fun l _ => by rw [if_neg q])
    · have z : ∀ l, Wy s y a a tt1 m l = 0 := fun l => by
        by_cases z : 0 < Wy s y a a tt1 m l
        · exact absurd ⟨l, z⟩ ex
        · omega
      rw [sumF_0 (fun l _ => by rw [z l]; split <;> rfl), sumF_0 (fun l _ => z l)]
      split <;> rfl
  rw [e1]
  refine sumF_to p12 (fun x h1 _ => ?_)
  unfold rwF
  rw [TT_0 (fun l => by rw [Wy_0 w wy h1]; omega)]
  split <;> rfl
theorem end_sum {s : ST} (w : WFS s) {y : DY} (wy : WFY s y) {a : Nat} : endV s y a = sumF (E0 s y a a) (2 ^ sN s) := by
  have p12 : 2 ^ sN s ≤ 2 ^ 12 := Nat.pow_le_pow_right (n := 2) (by omega) w.n12
  rw [show (2 : Nat) ^ 12 = 4096 from rfl] at p12
  have e1 : endV s y a = sumF (E0 s y a a) 4096 := by
    unfold endV
    rw [show (53248 : Nat) = 13 * 4096 from rfl, sumF_flat]
    refine sumF_congr (fun m _ => ?_)
    unfold E0
    refine sumF_congr (fun l hl => ?_)
    rw [show (13 * m + l) / 13 = m by omega, show (13 * m + l) % 13 = l by omega]
    by_cases q : mvG s y a a m l = 0
    · rw [if_pos q, if_pos (by simpa using q)]
    · rw [if_neg q, if_neg (by simpa using q)]
  rw [e1]
  exact sumF_to p12 (fun x h1 _ => E0_0 (fun l => by rw [Wy_0 w wy h1]; omega))
theorem PEq_st {s : ST} {D L m r : Nat} (hL : L ≤ 12) : PEq s r (stF D L m) = if m = D ∧ rnk s L = r then 1 else 0 := by
  unfold PEq
  by_cases e : m = D
  · have : sumF (fun l => if rnk s l = r then stF D L m l else 0) 13 = sumF (fun l => if l = L then (if rnk s l = r then 1 else 0) else 0) 13 := sumF_congr (fun l _ => by
      unfold stF
      by_cases q : l = L
      · rw [if_pos (show m = D ∧ l = L from ⟨e, q⟩), if_pos q]
      · rw [if_neg (show ¬ (m = D ∧ l = L) from fun z => q z.2), if_neg q]
        split <;> rfl)
    rw [this, sumF_one (fun l => if rnk s l = r then 1 else 0), if_pos (by omega)]
    by_cases q : rnk s L = r
    · rw [if_pos q, if_pos ⟨e, q⟩]
    · rw [if_neg q, if_neg (fun z => q z.2)]
  · rw [if_neg (fun z => e z.1)]
    refine sumF_0 (fun l _ => ?_)
    unfold stF
    rw [if_neg (show ¬ (m = D ∧ l = L) from fun z => e z.1)]
    split <;> rfl
def TyC (s : ST) (y : DY) (a b : Nat) (h : AH) : Prop := jvA h 57 19 = kJ (-1) ∨ (a = b ∧ jvA h 57 19 = kJ (endV s y a : Nat) ∧ ∀ n, n < 13 → jvA h 64 n = kJ (rowV s y a n : Nat))
theorem endV_lt {s : ST} (w : WFS s) {y : DY} (wy : WFY s y) (a : Nat) : endV s y a < 9000000000000 := by
  rw [end_sum w wy]
  have b : ∀ m, E0 s y a a m ≤ 479001600 := fun m => Nat.le_trans (sumF_le2 (g := Wy s y a a tt1 m) (fun l _ => by
    split
    · exact Nat.le_refl _
    · exact Nat.zero_le _)) (TT_12 w wy)
  have := sumF_le b (2 ^ sN s)
  have p12 : 2 ^ sN s ≤ 2 ^ 12 := Nat.pow_le_pow_right (n := 2) (by omega) w.n12
  rw [show (2 : Nat) ^ 12 = 4096 from rfl] at p12
  have := Nat.mul_le_mul_left 479001600 p12
  omega
/-- what counting changes -/
abbrev FTl (va : Nat) (h h' : AH) : Prop := Fr (fun x k => x = va ∨ (x = 57 ∧ k = 12)) (fun x _ => x = 57 ∨ x = 64) h h'
theorem Pa_tally_g {T : Nat → Nat} {s : ST} {p : Nat} {y : DY} {a : Nat} {h : AH} (G : PGr T s p y a a h) (C : TyC s y a a h) : GV 4 m_Pa_tally [.ref 57] h (fun h' => FTl (rvA h 57 11) h h' ∧ (h' = h ∨ ivA h' 57 12 = kI (-1)) ∧ jvA h' 57 19 = kJ (endV s y a : Nat) ∧ ∀ n, n < 13 → jvA h' 64 n = kJ (rowV s y a n : Nat)) := by
  have P := G.H
  have F := P.F
  have w := P.S.wf
  have pn := P.n
  have n2 := w.n12
  have wd := wdt_b w
  have hD := P.wy.m12 w
  have hD2 := P.wy.1
  have hL := P.wy.l12 w
  have rk := rnk_lt P.wy.2.1
  have el := endV_lt w P.wy a
  have v57 := P.xv.out (i := 57) (by omega) (by omega)
  have v64 := P.xv.out (i := 64) (by omega) (by omega)
  refine GVo (s_Pa_tally_0 ?_)
  rw [kd_57 F]
  refine ⟨rfl, ?_⟩
  rcases C with C | ⟨_, C, C2⟩
  · rw [C, if_pos (by decide)]
    obtain ⟨h1, h1e⟩ : ∃ h1, h1 = stJ (stI h 57 12 (kI (-1))) 57 19 (kJ 0) := ⟨_, rfl⟩
    rw [← h1e]
    have e1 : FTl (rvA h 57 11) h h1 := by
      rw [h1e]
      exact ((Fr_rfl (fun x k => x = rvA h 57 11 ∨ (x = 57 ∧ k = 12)) (fun x _ => x = 57 ∨ x = 64) h).stI (Or.inr ⟨rfl, rfl⟩) _).stJ (Or.inl rfl) _
    have F1 := e1.fix F
    have i112 : ivA h1 57 12 = kI (-1) := by rw [h1e, iv_stJ, iv_stI, if_pos ⟨rfl, rfl⟩]
    have j119 : jvA h1 57 19 = kJ 0 := by rw [h1e, jv_stJ, if_pos ⟨rfl, rfl⟩]
    rw [kd_stI, kd_57 F, kd_57 F1, rv_57_18 F1]
    refine ⟨rfl, rfl, rfl, ?_⟩
    refine GV.use (Ar_fill_g (kd_64 F1) (ln_64 F1) (by omega) (kJ 0)) (by omega) (fun h2 e2 => ?_)
    obtain ⟨e2, z2⟩ := e2
    have F2 := e2.fix F1
    have r2 : rvA h2 57 11 = rvA h 57 11 := by rw [e2.2.2.1, e1.2.2.1]
    have kl2 : kdA h2 (rvA h 57 11) = 20 ∧ lnA h2 (rvA h 57 11) = lnA h (rvA h 57 11) := by
      rw [e2.1, e2.2.1, e1.1, e1.2.1]
      exact ⟨P.xv.2.2.2.1, rfl⟩
    rw [kd_57 F2, r2]
    refine ⟨rfl, ?_⟩
    refine GV.use (Ar_fill2_g kl2.1 kl2.2 (by have := P.xv.2.2.2.2.2; omega) (kI 0)) (by omega) (fun h3 e3 => ?_)
    obtain ⟨e3, z3⟩ := e3
    have F3 := e3.fix F2
    have e13 : FTl (rvA h 57 11) h h3 := e1.trans ((e2.mono (fun _ _ z => z.elim) (fun x _ z => Or.inr z)).trans (e3.mono (fun x _ z => Or.inl z) (fun _ _ z => z.elim)))
    have P3 : PHd T s p y a a (rvA h 57 9) (rvA h 57 10) (rvA h 57 11) h3 := P.sv (e13.mono (fun x k z => by rcases z with z | z; exact Or.inl z; exact Or.inr (Or.inl ⟨z.1, by omega⟩)) (fun _ _ z => z))
    have bd := idx_lt hD2 rk
    have lv := P3.xv.2.2.2.2.1
    have ei : kI (yD y : Int) * kI (wdt s : Int) + kI (rnk s (yL y) : Int) = kI ((yD y * wdt s + rnk s (yL y) : Nat) : Int) := by rw [kI_mul, kI_add]; rfl
    rw [kd_57 F3, P3.r11, P3.i5, P3.i6, P3.i7, P3.xv.2.2.2.1, ei, ix_kI (by omega), kd_stI, kd_57 F3]
    refine ⟨rfl, rfl, rfl, rfl, rfl, inB_kI (by omega) (by omega), rfl, ?_⟩
    obtain ⟨h4, h4e⟩ : ∃ h4, h4 = stI h3 (rvA h 57 11) (yD y * wdt s + rnk s (yL y)) (kI 1) := ⟨_, rfl⟩
    rw [← h4e]
    have e4 : Fr (fun x _ => x = rvA h 57 11) I0 h3 h4 := by
      rw [h4e]
      exact (Fr_rfl (fun x _ => x = rvA h 57 11) I0 h3).stI rfl _
    have e14 : FTl (rvA h 57 11) h h4 := e13.trans (e4.mono (fun x _ z => Or.inl z) (fun _ _ z => z.elim))
    have P4 := P3.po e4
    have i412 : ivA h4 57 12 = kI (-1) := by
      rw [e4.2.2.2.2.2.1 57 12 (fun z => v57 z.symm), e3.2.2.2.2.2.1 57 12 (fun z => v57 z.symm), e2.2.2.2.2.2.1 57 12 (fun z => z)]
      exact i112
    have V4 : VCt s y a a (rvA h 57 11) (yD y) h4 := fun m r hm hr => by
      have lt := idx_lt hm hr
      have lvh := P.xv.2.2.2.2.1
      have ce : CE s y a a (yD y) m r = if m = yD y ∧ rnk s (yL y) = r then 1 else 0 := by
        unfold CE
        rw [← PEq_st hL]
        exact sumF_congr (fun l _ => by rw [EW_0])
      rw [h4e, iv_stI, ce]
      by_cases q : m = yD y ∧ rnk s (yL y) = r
      · rw [if_pos q, if_pos ⟨rfl, by rw [q.1, q.2]⟩]; rfl
      · rw [if_neg q, if_neg (fun z => q (by have := idx_inj hr rk z.2; exact ⟨this.1, this.2.symm⟩)), z3 _ (by omega)]
        rfl
    rw [P4.i5]
    have J4 : jvA h4 57 19 = kJ ((sumF (E0 s y a a) (yD y) : Nat) : Int) := by
      rw [e4.2.2.2.2.2.2 57 19 (fun z => z), e3.2.2.2.2.2.2 57 19 (fun z => z), e2.2.2.2.2.2.2 57 19 (by omega), j119, sumF_0 (fun m hm => E0_0 (fun l => by rw [show Wy s y a a tt1 m l = 0 from CW_lo hm]; omega))]
      rfl
    have T4 : ∀ n, n < 13 → jvA h4 64 n = kJ ((sumF (rwF s y a a n) (yD y) : Nat) : Int) := fun n hn => by
      rw [e4.2.2.2.2.2.2 64 n (fun z => z), e3.2.2.2.2.2.2 64 n (fun z => z), z2 n hn, sumF_0 (fun m hm => by
        unfold rwF
        rw [TT_0 (fun l => by rw [show Wy s y a a tt1 m l = 0 from CW_lo hm]; omega)]
        split <;> rfl)]
      rfl
    suffices H : ∀ n k, 10000 - k ≤ n → subB (yD y) k → k ≤ 8191 → ∀ h5, FTy (rvA h 57 11) h4 h5 → VCt s y a a (rvA h 57 11) k h5 → jvA h5 57 19 = kJ ((sumF (E0 s y a a) k : Nat) : Int) → (∀ n, n < 13 → jvA h5 64 n = kJ ((sumF (rwF s y a a n) k : Nat) : Int)) → Safe 3 m_Pa_tally (63, [.ref 57, .int (kI k)], [], h5) (fun v h' => Eqv v none ∧ FTl (rvA h 57 11) h h' ∧ (h' = h ∨ ivA h' 57 12 = kI (-1)) ∧ jvA h' 57 19 = kJ (endV s y a : Nat) ∧ ∀ n, n < 13 → jvA h' 64 n = kJ (rowV s y a n : Nat)) by
      exact H 10000 (yD y) (by omega) (subB_refl _) (by omega) h4 (Fr_rfl _ _ _) V4 J4 T4
    intro n
    induction n with
    | zero => intro k hn _ hk; omega
    | succ n ih =>
      intro k hn sb hk h5 e5 V5 J5 T5
      have P5 := P4.po e5
      have F5 := P5.F
      have na := P.xa.out (i := 57) (by omega) (by omega)
      have nm := P.xm.out (i := 57) (by omega) (by omega)
      have a5 : ∀ m, ivA h5 (rvA h 57 9) m = ivA h (rvA h 57 9) m := fun m => by
        rw [e5.2.2.2.2.2.1 _ m P.ne.2.1, e14.2.2.2.2.2.1 _ m (fun z => by rcases z with z | z; exact P.ne.2.1 z; exact na z.1)]
      have m5 : ∀ m, ivA h5 (rvA h 57 10) m = ivA h (rvA h 57 10) m := fun m => by
        rw [e5.2.2.2.2.2.1 _ m P.ne.2.2, e14.2.2.2.2.2.1 _ m (fun z => by rcases z with z | z; exact P.ne.2.2 z; exact nm z.1)]
      obtain ⟨arr, A⟩ := G.A
      refine s_Pa_tally_63 ?_
      rw [kd_57 F5, P5.r1, P5.S.k, P5.S.i3]
      refine ⟨rfl, rfl, ?_⟩
      by_cases q : 2 ^ sN s ≤ k
      · rw [if_pos (by rw [decide_eq_true_eq, kI_lt (by omega) (by omega) (by omega) (by omega)]; omega)]
        refine ⟨rfl, e14.trans (e5.mono (fun x _ z => Or.inl z) (fun _ _ z => z)), Or.inr (by rw [e5.2.2.2.2.2.1 57 12 (fun z => v57 z.symm)]; exact i412), ?_, fun n hn => ?_⟩
        · rw [J5, end_sum w P.wy, sumF_to q (fun x h1 _ => E0_0 (fun l => by rw [Wy_0 w P.wy h1]; omega))]
        · rw [T5 n hn, row_sum w P.wy, sumF_to q (fun x h1 _ => ?_)]
          unfold rwF
          rw [TT_0 (fun l => by rw [Wy_0 w P.wy h1]; omega)]
          split <;> rfl
      · have hk2 : k < 2 ^ sN s := by omega
        have Ak := A k hk2
        have lar : k < lnA h5 (rvA h 57 9) := by have := P5.xa.2.2.2.2.1; omega
        have nx := next_lt w P.wy hk2
        rw [if_neg (by rw [decide_eq_true_eq, kI_lt (by omega) (by omega) (by omega) (by omega)]; omega), P5.r9, P5.xa.2.2.2.1, ix_kI (by omega), a5, Ak.1]
        refine ⟨rfl, rfl, inB_kI (by omega) lar, ?_⟩
        have next : ∀ h6, FTy (rvA h 57 11) h4 h6 → VCt s y a a (rvA h 57 11) (k + 1) h6 → jvA h6 57 19 = kJ ((sumF (E0 s y a a) (k + 1) : Nat) : Int) → (∀ n, n < 13 → jvA h6 64 n = kJ ((sumF (rwF s y a a n) (k + 1) : Nat) : Int)) → Safe 3 m_Pa_tally (88, [.ref 57, .int (kI k)], [], h6) (fun v h' => Eqv v none ∧ FTl (rvA h 57 11) h h' ∧ (h' = h ∨ ivA h' 57 12 = kI (-1)) ∧ jvA h' 57 19 = kJ (endV s y a : Nat) ∧ ∀ n, n < 13 → jvA h' 64 n = kJ (rowV s y a n : Nat)) := by
          intro h6 e6 V6 J6 T6
          have P6 := P4.po e6
          have eo : kI (k : Int) + kI 1 = kI ((k + 1 : Nat) : Int) := by rw [kI_add]; rfl
          refine s_Pa_tally_88 ?_
          rw [kd_57 P6.F, P6.i5, eo, kI_or]
          have gap : ∀ x, k + 1 ≤ x → x < (k + 1) ||| yD y → ∀ l, ¬ 0 < Wy s y a a tt1 x l := fun x h1 h2 l hl => sup_gap sb x h1 h2 (CW_sub _ _ hl)
          refine ⟨rfl, ih ((k + 1) ||| yD y) (dec_next hn nx.1) (next_sub _ _) nx.2 h6 e6 (fun m r hm hr => ?_) ?_ (fun n hn => ?_)⟩
          · rw [V6 m r hm hr]
            congr 2
            have : ∀ t, k + 1 + t ≤ (k + 1) ||| yD y → CE s y a a (k + 1 + t) m r = CE s y a a (k + 1) m r := by
              intro t
              induction t with
              | zero => intro _; rfl
              | succ t iht =>
                intro ht
                rw [← iht (by omega)]
                unfold CE
                refine sumF_congr (fun l _ => ?_)
                rw [show k + 1 + (t + 1) = (k + 1 + t) + 1 by omega, EW_full]
                have z : (if m.testBit l = true ∧ tt1 l = true ∧ m ^^^ 2 ^ l = k + 1 + t then sumF (tmF (mvG s y a a) (yD y) (yL y) tt1 m l) 13 else 0) = 0 := by
                  by_cases q : m.testBit l = true ∧ tt1 l = true ∧ m ^^^ 2 ^ l = k + 1 + t
                  · rw [if_pos q]
                    refine sumF_0 (fun i _ => ?_)
                    unfold tmF
                    have := gap (k + 1 + t) (by omega) (by omega) i
                    rw [q.2.2]
                    split
                    · show Wy s y a a tt1 (k + 1 + t) i = 0
                      omega
                    · rfl
                  · rw [if_neg q]
                rw [z, Nat.add_zero]
            have := this (((k + 1) ||| yD y) - (k + 1)) (by omega)
            rw [show k + 1 + (((k + 1) ||| yD y) - (k + 1)) = (k + 1) ||| yD y by omega] at this
            exact this.symm
          · rw [J6, sumF_to nx.1 (fun x h1 h2 => E0_0 (gap x h1 h2))]
          · rw [T6 n hn, sumF_to nx.1 (fun x h1 h2 => ?_)]
            unfold rwF
            rw [TT_0 (gap x h1 h2)]
            split <;> rfl
        by_cases qz : arr k = 0
        · rw [if_pos (by rw [qz]; decide)]
          have no : ∀ l, ¬ 0 < Wy s y a a tt1 k l := Ak.2.2.zero.mp qz
          refine next h5 e5 (fun m r hm hr => ?_) ?_ (fun n hn => ?_)
          · rw [V5 m r hm hr]
            congr 2
            unfold CE
            refine sumF_congr (fun l _ => ?_)
            rw [EW_full]
            have z : (if m.testBit l = true ∧ tt1 l = true ∧ m ^^^ 2 ^ l = k then sumF (tmF (mvG s y a a) (yD y) (yL y) tt1 m l) 13 else 0) = 0 := by
              by_cases q : m.testBit l = true ∧ tt1 l = true ∧ m ^^^ 2 ^ l = k
              · rw [if_pos q]
                refine sumF_0 (fun i _ => ?_)
                unfold tmF
                have := no i
                rw [q.2.2]
                split
                · show Wy s y a a tt1 k i = 0
                  omega
                · rfl
              · rw [if_neg q]
            rw [z, Nat.add_zero]
          · rw [J5, sumF_s, E0_0 no, Nat.add_zero]
          · rw [T5 n hn, sumF_s]
            have : rwF s y a a n k = 0 := by
              unfold rwF
              rw [TT_0 no]
              split <;> rfl
            rw [this, Nat.add_zero]
        · rw [if_neg (by rw [decide_eq_true_eq, z0, kI_inj (by omega) (by omega) (by omega) (by omega)]; omega)]
          refine ⟨rfl, ?_⟩
          refine GV.use (Pa_tallyAt_g P5 ⟨arr, fun m hm => by rw [a5]; exact A m hm⟩ (fun m l h1 h2 => by rw [m5]; exact G.M m l h1 h2) hk2 sb V5 J5 T5) (by omega) (fun h6 e6 => ?_)
          exact next h6 (e5.trans e6.1) e6.2.1 (by rw [e6.2.2.1]; rfl) (fun n hn => by rw [e6.2.2.2 n hn]; rfl)
  · rw [C, if_neg (by rw [decide_eq_true_eq, cmp_eq, kJ_inj (by omega) (by omega) (by omega) (by omega)]; omega)]
    exact ⟨rfl, Fr_rfl _ _ _, Or.inl rfl, rfl, C2⟩
