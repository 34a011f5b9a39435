/-! safest strokes: how long the row is, and where there is none -/
theorem pt_len3 {s : ST} (w : WFS s) {y : DY} {a b n : Nat} : ∀ k m l, m < 4096 → pop (yD y) ≤ pop m → pop m - pop (yD y) ≤ n → n - (pop m - pop (yD y)) ≤ k → WT s y a b 3 n m l ≠ 1048576 → (ptF s y a b 3 n k m l).length = n - (pop m - pop (yD y)) := by
  intro k
  induction k with
  | zero =>
    intro m l hm hp h1 h2 hv
    show 0 = _
    omega
  | succ k ih =>
    intro m l hm hp h1 h2 hv
    rw [ptF_s]
    by_cases he : endB y 3 n m = true
    · rw [if_pos he]
      unfold endB at he
      simp at he
      show 0 = _
      omega
    · rw [if_neg he]
      have he' : endB y 3 n m = false := by simpa using he
      have hne : pop m - pop (yD y) ≠ n := fun z => by
        unfold endB at he'
        simp [z] at he'
      obtain ⟨c, hc⟩ := step_ex w (by omega) hm he' hv (by omega)
      obtain ⟨s1, s2, s3, s4, s5⟩ := step_of w hc
      rw [hc]
      show (c :: ptF s y a b 3 n k (m ||| 2 ^ c) c).length = _
      rw [List.length_cons]
      have n2 := w.n12
      have pc := pop_or (show c < 12 by omega) s2
      have e := s5 (by omega)
      have g := WT_gd w (y := y) (a := a) (b := b) (aim := 3) (tg := n) (l := l) (by omega) hm
      have g2 := WT_gd w (y := y) (a := a) (b := b) (aim := 3) (tg := n) (l := c) (by omega) (or_4096 hm (show c < 12 by omega))
      have o := odF_b s y c
      have wc : wcF s y 3 c = odF s y c := rfl
      unfold Gd at g
      have := pop_le m
      have := ih (m ||| 2 ^ c) c (or_4096 hm (by omega)) (by omega) (by omega) (by omega) (by omega)
      omega
theorem cnt_hi {p : Nat → Bool} {n : Nat} (h : ∀ k, n ≤ k → p k = false) (hn : n ≤ 12) : cnt p 12 ≤ n := by
  have := cnt_add p n (12 - n) (fun k h1 _ => h k h1)
  rw [show n + (12 - n) = 12 by omega] at this
  rw [this]
  exact cnt_le _ _
theorem WT_far {s : ST} (w : WFS s) {y : DY} {a b n : Nat} (hn : sN s < n + pop (yD y)) : ∀ m l, m < 4096 → m < 2 ^ sN s → pop (yD y) ≤ pop m → WT s y a b 3 n m l = 1048576 := by
  refine tv_ind (fun m l hm ih hN hp => ?_)
  have n2 := w.n12
  have pm : pop m ≤ sN s := cnt_hi (fun k hk => bit_hi hN hk) n2
  have eq := WT_eq w (y := y) (a := a) (b := b) (aim := 3) (tg := n) (l := l) hm
  have eq3 : WT s y a b 3 n m l = if pop m - pop (yD y) = n then 0 else mnF (mvG s y a b m l).testBit (odF s y) (fun c => WT s y a b 3 n (m ||| 2 ^ c) c) 12 := eq
  rw [eq3, if_neg (by omega)]
  rcases mnF_at (ok := (mvG s y a b m l).testBit) (w := odF s y) (f := fun c => WT s y a b 3 n (m ||| 2 ^ c) c) 12 with q | ⟨c, q1, q2, q3, q4⟩
  · exact q
  · have hb := mvG_N w q2
    have := ih c q1 hb.2 (or_lt2 hN hb.1) (by rw [pop_or q1 hb.2]; omega)
    have := odF_b s y c
    omega
def safA (s : ST) (y : DY) (a n wh : Int) : Int := if (0 ≤ a ∧ a < sH s) ∧ ((0 ≤ wh ∧ wh ≤ 1) ∨ (10 ≤ wh ∧ wh ≤ 21)) then (if 0 ≤ n ∧ n ≤ 12 then (if oddsT s (yD y) = 0 then -1 else if WT s y a.toNat a.toNat 3 n.toNat (yD y) (yL y) = 1048576 then -1 else if wh < 2 then (((if wh = 0 then oddsT s (yD y) - (WT s y a.toNat a.toNat 3 n.toNat (yD y) (yL y)).toNat else oddsT s (yD y)) / Nat.gcd (oddsT s (yD y) - (WT s y a.toNat a.toNat 3 n.toNat (yD y) (yL y)).toNat) (oddsT s (yD y)) : Nat) : Int) else (if wh - 10 < n then (((paF s y a.toNat a.toNat 3 n.toNat).getD (wh - 10).toNat 0 : Nat) : Int) else -1)) else -3) else -2
/-- the odds of the cells of a row are no more than all odds -/
def sumM (f : Nat → Nat) (m : Nat) : Nat → Nat
  | 0 => 0
  | k + 1 => sumM f m k + (if m.testBit k = true then 0 else f k)
theorem sumM_or {f : Nat → Nat} {m c : Nat} (hb : m.testBit c = false) : ∀ n, c < n → sumM f m n = sumM f (m ||| 2 ^ c) n + f c
  | 0, h => by omega
  | n + 1, h => by
    show sumM f m n + (if m.testBit n = true then 0 else f n) = sumM f (m ||| 2 ^ c) n + (if (m ||| 2 ^ c).testBit n = true then 0 else f n) + f c
    by_cases e : c = n
    · subst e
      rw [hb, or_self_bit]
      have : ∀ k, k ≤ c → sumM f m k = sumM f (m ||| 2 ^ c) k := by
        intro k
        induction k with
        | zero => intro _; rfl
        | succ k ihk =>
          intro hk
          show sumM f m k + (if m.testBit k = true then 0 else f k) = sumM f (m ||| 2 ^ c) k + (if (m ||| 2 ^ c).testBit k = true then 0 else f k)
          rw [ihk (by omega), Nat.testBit_or, two_bit]
          have : ¬ c = k := by omega
          simp [this]
      rw [this c (Nat.le_refl _)]
      simp
    · have ih := sumM_or hb n (by omega) (f := f)
      have : (m ||| 2 ^ c).testBit n = m.testBit n := by
        rw [Nat.testBit_or, two_bit]
        simp [e]
      rw [ih, this]
      omega
theorem WT_odds {s : ST} (w : WFS s) {y : DY} {a b n : Nat} : ∀ m l, m < 4096 → m < 2 ^ sN s → WT s y a b 3 n m l ≠ 1048576 → WT s y a b 3 n m l ≤ sumM (fun c => oddF s c (yD y)) m (sN s) := by
  refine tv_ind (fun m l hm ih hN hv => ?_)
  have n2 := w.n12
  have eq := WT_eq w (y := y) (a := a) (b := b) (aim := 3) (tg := n) (l := l) hm
  have eq3 : WT s y a b 3 n m l = if pop m - pop (yD y) = n then 0 else mnF (mvG s y a b m l).testBit (odF s y) (fun c => WT s y a b 3 n (m ||| 2 ^ c) c) 12 := eq
  by_cases q : pop m - pop (yD y) = n
  · rw [eq3, if_pos q]; omega
  · rw [if_neg q] at eq3
    rcases mnF_at (ok := (mvG s y a b m l).testBit) (w := odF s y) (f := fun c => WT s y a b 3 n (m ||| 2 ^ c) c) 12 with q0 | ⟨c, q1, q2, q3, q4⟩
    · rw [q0] at eq3; exact absurd eq3 hv
    · have hb := mvG_N w q2
      have o := odF_b s y c
      have h1 := ih c q1 hb.2 (or_lt2 hN hb.1) (by omega)
      have h2 := sumM_or (f := fun c => oddF s c (yD y)) hb.2 (sN s) hb.1
      have o2 : odF s y c = (oddF s c (yD y) : Int) := rfl
      rw [eq3, q3, o2]
      omega
theorem sumM_le (f : Nat → Nat) (m : Nat) : ∀ n, sumM f m n ≤ sumF f n
  | 0 => Nat.le_refl _
  | n + 1 => by
    have := sumM_le f m n
    show sumM f m n + (if m.testBit n = true then 0 else f n) ≤ sumF f n + f n
    split <;> omega
theorem WT_all {s : ST} (w : WFS s) {y : DY} (wy : WFY s y) {a b n : Nat} (hv : WT s y a b 3 n (yD y) (yL y) ≠ 1048576) : 0 ≤ WT s y a b 3 n (yD y) (yL y) ∧ WT s y a b 3 n (yD y) (yL y) ≤ oddsT s (yD y) := by
  have h1 := WT_odds w (y := y) (a := a) (b := b) (n := n) (yD y) (yL y) (wy.m12 w) wy.1 hv
  have h2 := sumM_le (fun c => oddF s c (yD y)) (yD y) (sN s)
  have g := (WT_gd w (y := y) (a := a) (b := b) (aim := 3) (tg := n) (l := yL y) (by omega) (wy.m12 w)).b
  unfold oddsT
  omega
abbrev FSf (h h' : AH) : Prop := Fr (fun a k => IM a k ∨ a = 96 ∨ a = 98 ∨ a = 101) JM h h'
theorem MC.sf {s : ST} {y : DY} {h h' : AH} (C : MC s y h) (e : FSf h h') : MC s y h' := C.scr e (fun k w => by unfold IM at w; omega)
theorem ld_safe {s : ST} (w : WFS s) {y : DY} {a n m l c : Nat} (hm : m < 4096) (hc : c < 12) (hb : (mvG s y a a m l).testBit c = true) (hv : WT s y a a 3 n m l ≠ 1048576) : ldB s y a a 3 n m l c = true ↔ (if rr 3 (WT s y a a 3 n (m ||| 2 ^ c) c) = 268435456 then 268435456 else odF s y c + rr 3 (WT s y a a 3 n (m ||| 2 ^ c) c)) = rr 3 (WT s y a a 3 n m l) := by
  have g1 := WT_gd w (y := y) (a := a) (b := a) (aim := 3) (tg := n) (l := c) (by omega) (or_4096 hm hc)
  have g2 := WT_gd w (y := y) (a := a) (b := a) (aim := 3) (tg := n) (l := l) (by omega) hm
  have o := odF_b s y c
  have p1 := pop_le m
  have p2 := pop_le (m ||| 2 ^ c)
  unfold ldB
  rw [hb, Bool.true_and, if_neg (by omega), decide_eq_true_eq, rr_3, rr_3, if_neg hv]
  have wc : wcF s y 3 c = odF s y c := rfl
  rw [wc]
  unfold Gd at g1 g2
  by_cases q : WT s y a a 3 n (m ||| 2 ^ c) c = 1048576
  · rw [if_pos q, if_pos rfl, q]
    omega
  · rw [if_neg q, if_neg (by omega)]
theorem Sts.fr {s : ST} {y : DY} {a n k : Nat} {I J : Nat → Nat → Prop} {h h' : AH} (M : Sts s y a n k h) (e : Fr I J h h') (z : ∀ k, ¬ I 98 k) : Sts s y a n k h' := fun m l h1 h2 h3 cb p => by rw [e.2.2.2.2.2.1 _ _ (z _)]; exact M m l h1 h2 h3 cb p
theorem le_of_sub {a b : Nat} (h : subB a b) : a ≤ b := by
  have e : b = b ||| a := bit_ext (fun k => by
    rw [Nat.testBit_or]
    cases q : a.testBit k
    · simp
    · rw [h k q]; rfl)
  rw [e]; exact Nat.right_le_or
set_option maxHeartbeats 1000000 in
theorem M_safest_g {s : ST} {y : DY} {h : AH} (C0 : MC s y h) {a n wh : Int} (a1 : -2147483648 ≤ a) (a2 : a ≤ 2147483647) (n1 : -2147483648 ≤ n) (n2' : n ≤ 2147483647) (w1 : -2147483648 ≤ wh) (w2 : wh ≤ 2147483647) : GI 41 m_M_safest [.ref 88, .int (kI a), .int (kI n), .int (kI wh)] h (kI (safA s y a n wh)) (FSf h) := by
  have F0 := C0.fix
  have C : MC s y (stI h 88 0 (kI 0)) := C0.fr (f88 h)
  have f0 : FSf h (stI h 88 0 (kI 0)) := (f88 h).mono (fun _ _ w => Or.inl w) (fun _ _ w => w)
  have F := C.fix
  have n2 := C.wf.n12
  have n4 := C.wf.2.2.2.2.2.1
  have hD := C.wy.m12 C.wf
  have hD2 := C.wy.1
  have hL := C.wy.l12 C.wf
  have oT := oddsT_le C.wf (yD y)
  have p12 : 2 ^ sN s ≤ 2 ^ 12 := Nat.pow_le_pow_right (by omega) n2
  have p12' : (2 : Nat) ^ 12 = 4096 := rfl
  refine GIo (s_M_safest_0 ⟨by rw [kd_88 F0]; rfl, by rw [kd_stI, kd_88 F0]; rfl, ?_⟩)
  rw [kI_long (by omega) (by omega), M_isHand_c C (by omega) (by omega) (by omega)]
  by_cases q1 : 0 ≤ a ∧ a < sH s
  · have s41 : ((0 ≤ wh ∧ wh ≤ 1) ∨ (10 ≤ wh ∧ wh ≤ 21)) → Safe 40 m_M_safest (41, [.ref 88, .int (kI a), .int (kI n), .int (kI wh), unV, unV, unV, unV, unV], [], stI h 88 0 (kI 0)) (fun v k => Eqv v (some (.int (kI (safA s y a n wh)))) ∧ FSf h k) := by
      intro q2
      obtain ⟨A, rfl⟩ : ∃ A : Nat, a = A := ⟨a.toNat, by omega⟩
      refine s_M_safest_41 ?_
      unfold safA
      rw [if_pos ⟨q1, q2⟩, kI_long (by omega) (by omega), M_within_c (by omega) (by omega) (by omega) (by omega) (by omega) (by omega) (by omega)]
      by_cases q3 : 0 ≤ n ∧ n ≤ 12
      · obtain ⟨N, rfl⟩ : ∃ N : Nat, n = N := ⟨n.toNat, by omega⟩
        rw [if_pos (by rw [Bool.not_eq_true', decide_eq_false_iff_not, bI_0]; exact fun z => z q3), if_pos q3]
        refine ⟨by rw [kd_88 F]; rfl, ?_⟩
        refine GI.use (M_oddsAll_g C) (by omega) (fun h3 e3 => ?_)
        have C3 := C.fr e3
        have f3 : FSf h h3 := f0.trans (e3.mono (fun _ _ w => Or.inl w) (fun _ _ w => w))
        have F3 := C3.fix
        by_cases q4 : oddsT s (yD y) = 0
        · rw [if_pos (by rw [q4]; decide), if_pos q4]
          exact ⟨rfl, f3⟩
        · rw [if_neg (by rw [decide_eq_true_eq, z0, kI_inj (by omega) (by omega) (by omega) (by omega)]; omega), if_neg q4]
          refine ⟨by rw [kd_88 F3]; rfl, ?_⟩
          have plN : pop (yD y) ≤ sN s := cnt_hi (fun k hk => bit_hi hD2 hk) n2
          rw [M_leftNow_c C3 (by omega), Int.toNat_natCast, Int.toNat_natCast]
          by_cases q5 : (N : Int) ≤ (sN s : Int) - pop (yD y)
          · rw [if_pos (by rw [decide_eq_true_eq, kI_le (by omega) (by omega) (by omega) (by omega)]; exact q5)]
            -- the odds
            suffices H : ∀ k, k ≤ sN s → ∀ h4, FSf h h4 → (∀ c, c < k → ivA h4 101 c = kI (odF s y c)) → Safe 40 m_M_safest (80, [.ref 88, .int (kI (A : Int)), .int (kI (N : Int)), .int (kI wh), .int (kI (oddsT s (yD y) : Int)), .int (kI k), unV, unV, unV], [], h4) (fun v k => Eqv v (some (.int (kI (if WT s y A A 3 N (yD y) (yL y) = 1048576 then -1 else if wh < 2 then (((if wh = 0 then oddsT s (yD y) - (WT s y A A 3 N (yD y) (yL y)).toNat else oddsT s (yD y)) / Nat.gcd (oddsT s (yD y) - (WT s y A A 3 N (yD y) (yL y)).toNat) (oddsT s (yD y)) : Nat) : Int) else (if wh - 10 < N then (((paF s y A A 3 N).getD (wh - 10).toNat 0 : Nat) : Int) else -1))))) ∧ FSf h k) by
              exact H 0 (by omega) h3 f3 (fun c hc => by omega)
            refine down_ind (sN s) ?_ ?_
            · intro h4 f4 O4
              have C4 := C0.sf f4
              have F4 := C4.fix
              refine s_M_safest_80 ?_
              refine ⟨by rw [kd_88 F4]; rfl, ?_⟩
              rw [M_cells_c C4 (by omega), if_pos (by rw [decide_eq_true_eq, kI_le (by omega) (by omega) (by omega) (by omega)]; omega), kd_88 F4, rv_88_21 F4]
              refine ⟨rfl, rfl, ?_⟩
              refine GV.use (M_laysMays_g C4 (show A < 4 by omega) (Or.inl rfl)) (by omega) (fun h5 e5 => ?_)
              obtain ⟨e5, M5⟩ := e5
              have C5 := C4.my e5 (by omega)
              have F5 := C5.fix
              have O5 : Ods s y h5 := fun c hc => by rw [e5.2.2.2.2.2.1 101 _ (by unfold IM; omega)]; exact O4 c hc
              refine ⟨by rw [kd_88 F5]; rfl, ?_⟩
              refine GI.use (M_laysSafest_g C5 (show N ≤ 12 by omega) M5 O5) (by omega) (fun h6 e6 => ?_)
              obtain ⟨e6, S6⟩ := e6
              have C6 : MC s y h6 := C5.scr e6 (fun k w => by omega)
              have F6 := C6.fix
              have M6 := M5.fr e6 (fun k => by omega)
              have O6 : Ods s y h6 := fun c hc => by rw [e6.2.2.2.2.2.1 101 _ (by omega)]; exact O5 c hc
              have f6 : FSf h h6 := f4.trans ((e5.mono (fun a k w => by rcases w with w | w; exact Or.inl w; exact Or.inr (Or.inl w)) (fun _ _ w => w)).trans (e6.mono (fun a k w => Or.inr (Or.inr (Or.inl w))) (fun _ _ w => w)))
              have gs := WT_gd C.wf (y := y) (a := A) (b := A) (aim := 3) (tg := N) (l := yL y) (by omega) hD
              by_cases q6 : WT s y A A 3 N (yD y) (yL y) = 1048576
              · rw [q6, if_neg (by decide), if_pos rfl]
                exact ⟨rfl, f6⟩
              · have wa := WT_all C.wf C.wy q6
                rw [rr_3, if_neg q6, if_pos (by rw [Bool.not_eq_true', decide_eq_false_iff_not, kI_inj (by omega) (by omega) (by omega) (by omega)]; omega)]
                by_cases q7 : wh < 2
                · rw [if_neg (by rw [decide_eq_true_eq, kI_le (by omega) (by omega) (by omega) (by omega)]; omega), if_neg q6, if_pos q7, kI_sub]
                  have ew : (oddsT s (yD y) : Int) - WT s y A A 3 N (yD y) (yL y) = ((oddsT s (yD y) - (WT s y A A 3 N (yD y) (yL y)).toNat : Nat) : Int) := by omega
                  rw [ew, M_part_c (by omega) (by omega) (by omega) (by omega) (by omega) (by omega)]
                  exact ⟨rfl, f6⟩
                · rw [if_pos (by rw [decide_eq_true_eq, kI_le (by omega) (by omega) (by omega) (by omega)]; omega), if_neg q6, if_neg q7]
                  refine ⟨by rw [kd_88 F6]; rfl, ?_⟩
                  rw [M_standNow_c C6 (by omega)]
                  obtain ⟨X, hX⟩ : ∃ X : Nat, wh = X + 10 := ⟨(wh - 10).toNat, by omega⟩
                  have eX : wh - 10 = (X : Int) := by omega
                  obtain ⟨pa, hpa⟩ : ∃ pa, pa = paF s y A A 3 N := ⟨_, rfl⟩
                  have len : pa.length = N := by
                    rw [hpa]
                    have := pt_len3 C.wf (y := y) (a := A) (b := A) (n := N) 12 (yD y) (yL y) hD (by omega) (by omega) (by omega) q6
                    rw [show N - (pop (yD y) - pop (yD y)) = N by omega] at this
                    exact this
                  rw [eX, Int.toNat_natCast, ← hpa]
                  suffices H3 : ∀ i, i ≤ N → i ≤ X → ∀ m l, cbP y m l → m < 2 ^ sN s → l ≤ 12 → pop m = pop (yD y) + i → ptF s y A A 3 N (12 - i) m l = pa.drop i → WT s y A A 3 N m l ≠ 1048576 → Safe 40 m_M_safest (160, [.ref 88, unV, .int (kI (N : Int)), .int (kI wh), unV, unV, .int (kI ((13 * m + l : Nat) : Int)), .int (kI i), unV], [], h6) (fun v k => Eqv v (some (.int (kI (if (X : Int) < N then ((pa.getD X 0 : Nat) : Int) else -1)))) ∧ FSf h k) by
                    exact H3 0 (by omega) (by omega) (yD y) (yL y) ⟨subB_iff.mpr (subB_refl _), Or.inl ⟨rfl, rfl⟩⟩ hD2 hL (by omega) (by rw [hpa]; rfl) q6
                  refine down_ind N ?_ ?_
                  · intro iX m l cb hm hl ip hq hv
                    refine s_M_safest_160 ?_
                    rw [if_pos (by rw [decide_eq_true_eq, kI_le (by omega) (by omega) (by omega) (by omega)]; omega), if_neg (by omega)]
                    exact ⟨rfl, f6⟩
                  · intro i hi ih iX m l cb hm hl ip hq hv
                    refine s_M_safest_160 ?_
                    rw [if_neg (by rw [decide_eq_true_eq, kI_le (by omega) (by omega) (by omega) (by omega)]; omega)]
                    have m12 : m < 4096 := by omega
                    obtain ⟨k0, hk0⟩ : ∃ k0, 12 - i = k0 + 1 := ⟨11 - i, by omega⟩
                    rw [hk0, ptF_s] at hq
                    have nonil : pa.drop i ≠ [] := fun z => by
                      have := congrArg List.length z
                      rw [List.length_drop] at this
                      simp at this
                      omega
                    by_cases he : endB y 3 N m = true
                    · rw [if_pos he] at hq; exact absurd hq.symm nonil
                    · rw [if_neg he] at hq
                      cases ec : fsF (ldB s y A A 3 N m l) 0 12 with
                      | none => rw [ec] at hq; exact absurd hq.symm nonil
                      | some c =>
                        rw [ec] at hq
                        have hq2 : c :: ptF s y A A 3 N k0 (m ||| 2 ^ c) c = pa.drop i := hq
                        have i1 : i < pa.length := by omega
                        have getc : pa.getD i 0 = c ∧ pa.drop (i + 1) = ptF s y A A 3 N k0 (m ||| 2 ^ c) c := by
                          have e1 : pa.drop i = pa.getD i 0 :: pa.drop (i + 1) := by
                            rw [List.drop_eq_getElem_cons i1]
                            congr 1
                            rw [List.getD_eq_getElem?_getD, List.getElem?_eq_getElem i1]
                            rfl
                          rw [← hq2] at e1
                          have := List.cons.inj e1
                          exact ⟨this.1.symm, this.2.symm⟩
                        obtain ⟨s1, s2, s3, s4, s5⟩ := step_of C.wf ec
                        have sp := fsF_some 12 0 c ec
                        have c12 : c < 12 := by omega
                        have leD := le_of_sub (subB_iff.mp cb.1)
                        have e96 : ivA h6 96 (13 * m + l) = kI (mvG s y A A m l) := by
                          rw [mvG_same]
                          exact M6 m l leD hm hl cb
                        have e98 : ivA h6 98 (13 * m + l) = kI (rr 3 (WT s y A A 3 N m l)) := S6 m l leD hm hl cb (by omega)
                        have mvl := mvG_lt C.wf y A A m l
                        have ix' : ix (kI ((13 * m + l : Nat) : Int)) = 13 * m + l := ix_kI (by omega)
                        have ib' : inB (kI ((13 * m + l : Nat) : Int)) 53248 = true := inB_kI (by omega) (by omega)
                        have nextS : ∀ d, (mvG s y A A m l).testBit d = true → ivA h6 98 (13 * (m ||| 2 ^ d) + d) = kI (rr 3 (WT s y A A 3 N (m ||| 2 ^ d) d)) := fun d hd => by
                          have hb := mvG_N C.wf hd
                          have := bit_lt hb.2
                          exact S6 _ _ (by omega) (or_lt2 hm hb.1) (by omega) (cb_next cb (by omega) hb.2) (by rw [pop_or (by omega) hb.2]; omega)
                        have rrb : ∀ d, d < 12 → 0 ≤ rr 3 (WT s y A A 3 N (m ||| 2 ^ d) d) ∧ rr 3 (WT s y A A 3 N (m ||| 2 ^ d) d) ≤ 268435456 := fun d hd => by
                          have g1 := (WT_gd C.wf (y := y) (a := A) (b := A) (aim := 3) (tg := N) (l := d) (by omega) (or_4096 m12 hd)).b
                          rw [rr_3]
                          split <;> omega
                        have rm : 0 ≤ rr 3 (WT s y A A 3 N m l) ∧ rr 3 (WT s y A A 3 N m l) ≤ 268435456 := by
                          have g1 := (WT_gd C.wf (y := y) (a := A) (b := A) (aim := 3) (tg := N) (l := l) (by omega) m12).b
                          rw [rr_3]
                          split <;> omega
                        suffices H4 : ∀ k, k ≤ c → Safe 40 m_M_safest (169, [.ref 88, unV, .int (kI (N : Int)), .int (kI wh), unV, unV, .int (kI ((13 * m + l : Nat) : Int)), .int (kI i), .int (kI k)], [], h6) (fun v k => Eqv v (some (.int (kI (if (X : Int) < N then ((pa.getD X 0 : Nat) : Int) else -1)))) ∧ FSf h k) by
                          exact H4 0 (by omega)
                        refine down_ind c ?_ ?_
                        · have lc := (ld_safe C.wf m12 c12 s3 hv).mp sp.2.2.1
                          refine s_M_safest_169 ?_
                          rw [rv_88_21 F6, kd_88 F6, kd_96 F6, ln_96 F6, ix', e96, kI_long (by omega) (by omega)]
                          refine ⟨rfl, rfl, ib', ?_⟩
                          rw [M_isIn_c (by omega) (by omega) (by omega), if_neg (by rw [dec_b0]; exact fun z => z s3)]
                          refine ⟨by rw [kd_88 F6]; rfl, ?_⟩
                          rw [M_safeBy_c C6 (by omega) m12 hl c12 (rrb c c12).1 (rrb c c12).2 (nextS c s3) (O6 c s1), lc, rv_88_23 F6, kd_88 F6, kd_98 F6, ln_98 F6, e98]
                          refine ⟨rfl, rfl, ib', ?_⟩
                          rw [if_pos (by rw [decide_eq_true_eq]), kI_sub, eX]
                          by_cases qi : i = X
                          · rw [if_neg (by rw [qi]; simp), if_pos (by omega), ← qi, getc.1]
                            exact ⟨rfl, f6⟩
                          · rw [if_pos (by rw [Bool.not_eq_true', decide_eq_false_iff_not, kI_inj (by omega) (by omega) (by omega) (by omega)]; omega), M_behind_c (by omega) m12 hl c12, kI_add]
                            refine ih (by omega) (m ||| 2 ^ c) c (cb_next cb c12 s2) (or_lt2 hm s1) (by omega) (by rw [pop_or c12 s2]; omega) ?_ ?_
                            · rw [getc.2, show 12 - (i + 1) = k0 by omega]
                            · have e := s5 (by omega)
                              have o := odF_b s y c
                              have wc : wcF s y 3 c = odF s y c := rfl
                              have g1 := WT_gd C.wf (y := y) (a := A) (b := A) (aim := 3) (tg := N) (l := l) (by omega) m12
                              have p := pop_le m
                              unfold Gd at g1
                              omega
                        · intro k hk ih2
                          have nk := sp.2.2.2 k (by omega) hk
                          refine s_M_safest_169 ?_
                          rw [rv_88_21 F6, kd_88 F6, kd_96 F6, ln_96 F6, ix', e96, kI_long (by omega) (by omega)]
                          refine ⟨rfl, rfl, ib', ?_⟩
                          rw [M_isIn_c (by omega) (by omega) (by omega)]
                          by_cases qb : (mvG s y A A m l).testBit k = true
                          · have lc := ld_safe C.wf m12 (show k < 12 by omega) qb hv
                            have nlc : ¬ (if rr 3 (WT s y A A 3 N (m ||| 2 ^ k) k) = 268435456 then 268435456 else odF s y k + rr 3 (WT s y A A 3 N (m ||| 2 ^ k) k)) = rr 3 (WT s y A A 3 N m l) := fun z => by
                              have := lc.mpr z
                              rw [nk] at this
                              cases this
                            have rb := rrb k (by omega)
                            have ob := odF_b s y k
                            rw [if_neg (by rw [dec_b0]; exact fun z => z qb)]
                            refine ⟨by rw [kd_88 F6]; rfl, ?_⟩
                            rw [M_safeBy_c C6 (by omega) m12 hl (by omega) rb.1 rb.2 (nextS k qb) (O6 k (by omega)), rv_88_23 F6, kd_88 F6, kd_98 F6, ln_98 F6, e98]
                            refine ⟨rfl, rfl, ib', ?_⟩
                            have xb : 0 ≤ (if rr 3 (WT s y A A 3 N (m ||| 2 ^ k) k) = 268435456 then 268435456 else odF s y k + rr 3 (WT s y A A 3 N (m ||| 2 ^ k) k)) ∧ (if rr 3 (WT s y A A 3 N (m ||| 2 ^ k) k) = 268435456 then 268435456 else odF s y k + rr 3 (WT s y A A 3 N (m ||| 2 ^ k) k)) ≤ 300000000 := by split <;> omega
                            rw [if_neg (by rw [decide_eq_true_eq, kI_inj (by omega) (by omega) (by omega) (by omega)]; exact nlc), kI_add]
                            exact ih2
                          · rw [if_pos (by rw [dec_b0]; exact qb), kI_add]
                            exact ih2
            · intro k hk ih h4 f4 O4
              have C4 := C0.sf f4
              have F4 := C4.fix
              refine s_M_safest_80 ?_
              refine ⟨by rw [kd_88 F4]; rfl, ?_⟩
              rw [M_cells_c C4 (by omega), if_neg (by rw [decide_eq_true_eq, kI_le (by omega) (by omega) (by omega) (by omega)]; omega)]
              refine ⟨by rw [kd_88 F4]; rfl, by rw [kd_88 F4]; rfl, ?_⟩
              refine GI.use (M_oddsOf_g C4 hk) (by omega) (fun h5 e5 => ?_)
              have C5 := C4.fr e5
              have F5 := C5.fix
              rw [rv_88_26 F4, kd_101 F5, ln_101 F5, ix_kI (by omega), kI_add]
              refine ⟨rfl, inB_kI (by omega) (by omega), ?_⟩
              refine ih _ ((f4.trans (e5.mono (fun _ _ w => Or.inl w) (fun _ _ w => w))).stI (Or.inr (Or.inr (Or.inr rfl))) _) (fun c hc => ?_)
              rw [iv_stI]
              by_cases qc : c = k
              · rw [if_pos ⟨rfl, qc⟩, qc]; rfl
              · rw [if_neg (fun z => qc z.2), e5.2.2.2.2.2.1 101 _ (by unfold IM; omega)]
                exact O4 c (by omega)
          · rw [if_neg (by rw [decide_eq_true_eq, kI_le (by omega) (by omega) (by omega) (by omega)]; exact q5)]
            have := WT_far C.wf (y := y) (a := A) (b := A) (n := N) (by omega) (yD y) (yL y) hD hD2 (by omega)
            rw [if_pos this]
            exact ⟨rfl, f3⟩
      · rw [if_neg (by rw [Bool.not_eq_true', decide_eq_false_iff_not, bI_0]; exact fun z => z q3), if_neg q3]
        exact ⟨rfl, f0⟩
    rw [if_neg (by rw [dec_b0]; exact fun z => z q1), kI_long (by omega) (by omega), M_within_c (by omega) (by omega) (by omega) (by omega) (by omega) (by omega) (by omega)]
    by_cases q2 : 0 ≤ wh ∧ wh ≤ 1
    · rw [if_pos (by rw [Bool.not_eq_true', decide_eq_false_iff_not, bI_0]; exact fun z => z q2)]
      exact s41 (Or.inl q2)
    · rw [if_neg (by rw [Bool.not_eq_true', decide_eq_false_iff_not, bI_0]; exact fun z => z q2), M_within_c (by omega) (by omega) (by omega) (by omega) (by omega) (by omega) (by omega)]
      by_cases q3 : 10 ≤ wh ∧ wh ≤ 21
      · rw [if_pos (by rw [Bool.not_eq_true', decide_eq_false_iff_not, bI_0]; exact fun z => z q3)]
        exact s41 (Or.inr q3)
      · rw [if_neg (by rw [Bool.not_eq_true', decide_eq_false_iff_not, bI_0]; exact fun z => z q3)]
        unfold safA
        rw [if_neg (fun z => z.2.elim q2 q3)]
        exact ⟨rfl, f0⟩
  · rw [if_pos (by rw [dec_b0]; exact q1)]
    unfold safA
    rw [if_neg (fun z => q1 z.1)]
    exact ⟨rfl, f0⟩
