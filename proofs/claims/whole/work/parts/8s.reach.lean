/-! what the paths tell: steps, the winning cell, what can be reached, what is needed -/
theorem Pa_step_c {s : ST} {y : DY} {a b aim tg d : Nat} {h : AH} (F : Fix h) (S : Slv s y a b aim tg h) (hd : 1 ≤ d) {i : Int} (i1 : -2147483648 ≤ i) (i2 : i ≤ 2147483647) {K : Int32 → AH → Prop} : CallI d m_Pa_step [.ref 57, .int (kI i)] h K ↔ K (if 0 ≤ i ∧ i < (trL s y a b aim tg).length then kI ((trL s y a b aim tg).getD i.toNat 0 : Nat) else kI (-1)) h := by
  have le := trL_le s y a b aim tg
  refine Ret.I (d := 1) (ret_of (s_Pa_step_0 ?_)) hd
  by_cases q1 : i < 0
  · rw [if_pos (by rw [decide_eq_true_eq, z0, kI_lt (by omega) (by omega) (by omega) (by omega)]; exact q1), if_neg (by omega)]
    exact ⟨rfl, rfl⟩
  · obtain ⟨j, rfl⟩ : ∃ j : Nat, i = j := ⟨i.toNat, by omega⟩
    rw [if_neg (by rw [decide_eq_true_eq, z0, kI_lt (by omega) (by omega) (by omega) (by omega)]; exact q1), kd_57 F, S.i17]
    refine ⟨rfl, ?_⟩
    by_cases q2 : j < (trL s y a b aim tg).length
    · rw [if_neg (by rw [decide_eq_true_eq, kI_le (by omega) (by omega) (by omega) (by omega)]; omega), if_pos (by omega), rv_57_16 F, kd_63 F, ln_63 F, ix_kI (by omega), S.st j q2, Int.toNat_natCast]
      exact ⟨rfl, rfl, inB_kI (by omega) (by omega), rfl, rfl⟩
    · rw [if_pos (by rw [decide_eq_true_eq, kI_le (by omega) (by omega) (by omega) (by omega)]; omega), if_neg (by omega)]
      exact ⟨rfl, rfl⟩
theorem Pa_firstWinning_c {T : Nat → Nat} {s : ST} {p : Nat} {y : DY} {a b tg d : Nat} {h : AH} (G : PGr T s p y a b h) (S : Slv s y a b 4 tg h) (hd : 1 ≤ d) {K : Int32 → AH → Prop} : CallI d m_Pa_firstWinning [.ref 57] h K ↔ K (kI (besV s y a b tg)) h := by
  have P := G.H
  have F := P.F
  have w := P.S.wf
  have pn := P.n
  have n2 := w.n12
  have wd := wdt_b w
  have hD := P.wy.m12 w
  have hD2 := P.wy.1
  have t1 := S.ok.2.2.1 rfl
  have rk := rnk_lt P.wy.2.1
  have bd := idx_lt hD2 rk
  have lm := P.xm.2.2.2.2.1
  have hw : 0 < Wy s y a b tt1 (yD y) (yL y) := CW_pos.mpr (Or.inl ⟨rfl, rfl⟩)
  have em := G.M (yD y) (yL y) hD2 hw
  have mvl := mvG_lt w y a b (yD y) (yL y)
  have hL := P.wy.l12 w
  have eb : kI (yD y : Int) * kI (wdt s : Int) = kI ((yD y * wdt s : Nat) : Int) := by rw [kI_mul]; rfl
  have ei : kI ((yD y * wdt s : Nat) : Int) + kI (rnk s (yL y) : Int) = kI ((yD y * wdt s + rnk s (yL y) : Nat) : Int) := by rw [kI_add]; rfl
  have bs : yD y * wdt s ≤ 60000 := by
    have := Nat.mul_le_mul (show yD y ≤ 4095 by omega) wd.2
    omega
  refine Ret.I (d := 1) (ret_of (s_Pa_firstWinning_0 ?_)) hd
  rw [kd_57 F, P.i5, P.i6, P.i7, eb, ei, P.xm.2.2.2.1, ix_kI (by omega), em]
  refine ⟨rfl, rfl, rfl, rfl, rfl, inB_kI (by omega) (by omega), ?_⟩
  obtain ⟨Pr, hP⟩ : ∃ Pr : Nat → Bool, Pr = fun c => (mvG s y a b (yD y) (yL y)).testBit c && decide (WT s y a b 4 tg (yD y ||| 2 ^ c) c < 0) := ⟨_, rfl⟩
  have bes_s : ∀ c, fsF Pr 0 12 = some c → besV s y a b tg = (c : Int) := fun c hc => by unfold besV; rw [← hP, hc]
  have bes_n : (∀ j, j < 12 → Pr j = false) → besV s y a b tg = -1 := fun z => by
    have : fsF Pr 0 12 = none := by
      cases e : fsF Pr 0 12 with
      | none => rfl
      | some c =>
        have := fsF_some 12 0 c e
        rw [z c (by omega)] at this
        cases this.2.2.1
    unfold besV; rw [← hP, this]
  have V : VRd s (mvG s y a b (yD y) (yL y)).testBit (yD y * wdt s) (rvA h 57 11) (fun c => WT s y a b 4 tg (yD y ||| 2 ^ c) c) h := fun c hc => by
    have nc := mvG_N w hc
    have rc := rnk_lt (s := s) (l := c) (Or.inr nc.1)
    have lt := idx_lt (or_lt2 hD2 nc.1) rc
    have lv := P.xv.2.2.2.2.1
    have rg := WT_rng w (y := y) (a := a) (b := b) (aim := 4) (tg := tg) (l := c) (by omega) (fun _ => t1) (or_4096 hD (show c < 12 by omega))
    rw [leap_idx nc.2]
    exact ⟨by omega, by omega, S.V _ _ (Nat.zero_le _) (CW_step (mvG_ok w y a b) (by omega) hw hc rfl) (fun z => by unfold byd at z; omega), rg.1, rg.2⟩
  suffices H : ∀ k, k ≤ 12 → (∀ j, j < k → Pr j = false) → Safe 0 m_Pa_firstWinning (24, [.ref 57, .int (kI ((yD y * wdt s : Nat) : Int)), .int (kI (mvG s y a b (yD y) (yL y) : Nat)), .int (kI k)], [], h) (fun v k => v = some (.int (kI (besV s y a b tg))) ∧ k = h) by
    exact H 0 (by omega) (fun j hj => by omega)
  refine down_ind 12 ?_ ?_
  · intro nl
    refine s_Pa_firstWinning_24 ?_
    rw [kd_57 F, rv_57_8 F, kd_58 F, ln_58 F, if_pos (by decide), bes_n nl]
    exact ⟨rfl, rfl, rfl, rfl⟩
  · intro k hk ih nl
    refine s_Pa_firstWinning_24 ?_
    rw [kI_bit (by omega) (by omega), kI_shr (by omega) (by omega)]
    refine ⟨by rw [kd_57 F]; rfl, by rw [rv_57_8 F, kd_58 F]; rfl, ?_⟩
    rw [if_neg (by rw [rv_57_8 F, ln_58 F, decide_eq_true_eq, kI_le (by omega) (by omega) (by omega) (by omega)]; omega)]
    have dl : mvG s y a b (yD y) (yL y) / 2 ^ k ≤ mvG s y a b (yD y) (yL y) := Nat.div_le_self _ _
    have dz : 0 ≤ ((mvG s y a b (yD y) (yL y) / 2 ^ k : Nat) : Int) := Int.natCast_nonneg _
    have noB : ∀ j, (mvG s y a b (yD y) (yL y)).testBit j = false → Pr j = false := fun j hj => by rw [hP]; simp [hj]
    by_cases q0 : mvG s y a b (yD y) (yL y) / 2 ^ k = 0
    · rw [if_pos (by rw [q0]; decide), bes_n (fun j hj => by
        by_cases z : j < k
        · exact nl j z
        · exact noB j (shr0 q0 j (by omega)))]
      exact ⟨rfl, rfl⟩
    · rw [if_neg (by rw [decide_eq_true_eq, z0, kI_inj (by omega) (by omega) (by omega) (by omega)]; omega)]
      have step : Pr k = false → Safe 0 m_Pa_firstWinning (24, [.ref 57, .int (kI ((yD y * wdt s : Nat) : Int)), .int (kI (mvG s y a b (yD y) (yL y) : Nat)), .int (kI k + kI 1)], [], h) (fun v k => v = some (.int (kI (besV s y a b tg))) ∧ k = h) := fun z => by
        rw [kI_add]
        exact ih (fun j hj => by
          by_cases e : j = k
          · rw [e]; exact z
          · exact nl j (by omega))
      by_cases qb : (mvG s y a b (yD y) (yL y)).testBit k = true
      · have rd := Pa_rd P V bs qb
        have v := V k qb
        dsimp only at v
        rw [if_neg (by rw [dec_b0]; exact fun z => z qb), rd.2.2.2.2.2]
        refine ⟨rd.1, rd.1, rd.2.1, rd.2.2.1, rd.2.2.2.1, rd.2.2.2.2.1, ?_⟩
        by_cases qs : WT s y a b 4 tg (yD y ||| 2 ^ k) k < 0
        · have pk : Pr k = true := by rw [hP]; simp [qb, qs]
          rw [if_neg (by rw [decide_eq_true_eq, z0, kI_le (by omega) (by omega) (by omega) (by omega)]; omega), bes_s k (by rw [fsF_from nl (by omega), show 12 - k = (11 - k) + 1 by omega, fsF_s, if_pos pk])]
          exact ⟨rfl, rfl⟩
        · rw [if_pos (by rw [decide_eq_true_eq, z0, kI_le (by omega) (by omega) (by omega) (by omega)]; omega)]
          exact step (by rw [hP]; simp [qs])
      · rw [if_pos (by rw [dec_b0]; exact qb)]
        exact step (noB k (by simpa using qb))
/-! loops over masks -/
theorem orF_skip {f : Nat → Nat} {k : Nat} : ∀ t, (∀ x, k ≤ x → x < k + t → f x = 0) → orF f (k + t) = orF f k
  | 0, _ => rfl
  | t + 1, h => by
    rw [show k + (t + 1) = (k + t) + 1 by omega, orF_s, orF_skip t (fun x h1 h2 => h x h1 (by omega)), h (k + t) (by omega) (by omega), Nat.or_zero]
theorem next_lt {s : ST} {y : DY} (w : WFS s) (wy : WFY s y) {k : Nat} (hk : k < 2 ^ sN s) : k + 1 ≤ (k + 1) ||| yD y ∧ (k + 1) ||| yD y ≤ 8191 := by
  have n2 := w.n12
  have p12 : 2 ^ sN s ≤ 2 ^ 12 := Nat.pow_le_pow_right (by omega) n2
  have p12' : (2 : Nat) ^ 12 = 4096 := rfl
  have hD := wy.m12 w
  have := Nat.or_lt_two_pow (n := 13) (show k + 1 < 2 ^ 13 by omega) (show yD y < 2 ^ 13 by omega)
  have e : (2 : Nat) ^ 13 = 8192 := rfl
  exact ⟨Nat.left_le_or, by omega⟩
theorem dec_next {k n x : Nat} (h : 10000 - k ≤ n + 1) (h2 : k + 1 ≤ x) : 10000 - x ≤ n := by omega
theorem next_sub (D k : Nat) : subB D ((k + 1) ||| D) := fun j hj => by rw [Nat.testBit_or, hj, Bool.or_true]
theorem gW_0 {s : ST} {y : DY} {a b : Nat} {m : Nat} (h : ∀ l, ¬ 0 < Wy s y a b tt1 m l) : gW s y a b tt1 m = 0 := by
  unfold gW
  rw [if_neg]
  intro z
  obtain ⟨l, _, h2⟩ := sumF_ex z
  exact h l h2
theorem gW_1 {s : ST} {y : DY} {a b : Nat} {m l : Nat} (hl : l < 13) (h : 0 < Wy s y a b tt1 m l) : gW s y a b tt1 m = m := by
  unfold gW
  rw [if_pos (Nat.lt_of_lt_of_le h (sumF_ge (f := Wy s y a b tt1 m) hl))]
theorem Pa_reached_c {T : Nat → Nat} {s : ST} {p : Nat} {y : DY} {a b d : Nat} {h : AH} (G : PGr T s p y a b h) (hd : 1 ≤ d) {K : Int32 → AH → Prop} : CallI d m_Pa_reached [.ref 57] h K ↔ K (kI (rchV s y a b tt1 : Nat)) h := by
  have P := G.H
  have F := P.F
  have w := P.S.wf
  have pn := P.n
  have n2 := w.n12
  have hD := P.wy.m12 w
  have hD2 := P.wy.1
  obtain ⟨arr, A⟩ := G.A
  refine Ret.I (d := 1) (ret_of (s_Pa_reached_0 ?_)) hd
  rw [kd_57 F, P.i5]
  refine ⟨rfl, ?_⟩
  have z0' : orF (gW s y a b tt1) (yD y) = 0 := orF_0 (fun k hk => gW_0 (fun l hl => by
    have : Wy s y a b tt1 k l = 0 := CW_lo hk
    omega))
  suffices H : ∀ n k, 10000 - k ≤ n → subB (yD y) k → k ≤ 8191 → Safe 0 m_Pa_reached (7, [.ref 57, .int (kI (orF (gW s y a b tt1) k : Nat)), .int (kI k)], [], h) (fun v k => v = some (.int (kI (rchV s y a b tt1 : Nat))) ∧ k = h) by
    have := H 10000 (yD y) (by omega) (subB_refl _) (by omega)
    rw [z0'] at this
    exact this
  intro n
  induction n with
  | zero => intro k hn _ hk; omega
  | succ n ih =>
    intro k hn sb hk
    refine s_Pa_reached_7 ?_
    rw [kd_57 F, P.r1, P.S.k, P.S.i3]
    refine ⟨rfl, rfl, ?_⟩
    by_cases q : 2 ^ sN s ≤ k
    · rw [if_pos (by rw [decide_eq_true_eq, kI_lt (by omega) (by omega) (by omega) (by omega)]; omega), P.i5, kI_dif]
      have e : orF (gW s y a b tt1) k = orF (gW s y a b tt1) (2 ^ sN s) := by
        have := orF_skip (f := gW s y a b tt1) (k := 2 ^ sN s) (k - 2 ^ sN s) (fun x h1 h2 => gW_0 (fun l hl => by have := (Wy_l w P.wy hl).2.1; omega))
        rw [show 2 ^ sN s + (k - 2 ^ sN s) = k by omega] at this
        exact this
      rw [e]
      exact ⟨rfl, rfl, rfl⟩
    · have hk2 : k < 2 ^ sN s := by omega
      have Ak := A k hk2
      have lar : k < lnA h (rvA h 57 9) := by have := P.xa.2.2.2.2.1; omega
      have nx := next_lt w P.wy hk2
      rw [if_neg (by rw [decide_eq_true_eq, kI_lt (by omega) (by omega) (by omega) (by omega)]; omega), P.xa.2.2.2.1, ix_kI (by omega), Ak.1]
      refine ⟨rfl, rfl, inB_kI (by omega) lar, ?_⟩
      have next : ∀ z : Nat, z = orF (gW s y a b tt1) (k + 1) → Safe 0 m_Pa_reached (31, [.ref 57, .int (kI z), .int (kI k)], [], h) (fun v k => v = some (.int (kI (rchV s y a b tt1 : Nat))) ∧ k = h) := fun z hz => by
        refine s_Pa_reached_31 ?_
        have eo : kI (k : Int) + kI 1 = kI ((k + 1 : Nat) : Int) := by rw [kI_add]; rfl
        rw [kd_57 F, P.i5, eo, kI_or]
        refine ⟨rfl, ?_⟩
        have e : orF (gW s y a b tt1) ((k + 1) ||| yD y) = orF (gW s y a b tt1) (k + 1) := by
          have := orF_skip (f := gW s y a b tt1) (k := k + 1) (((k + 1) ||| yD y) - (k + 1)) (fun x h1 h2 => gW_0 (fun l hl => sup_gap sb x h1 (by omega) (CW_sub _ _ hl)))
          rw [show k + 1 + (((k + 1) ||| yD y) - (k + 1)) = (k + 1) ||| yD y by omega] at this
          exact this
        have := ih ((k + 1) ||| yD y) (by omega) (next_sub _ _) nx.2
        rw [e, ← hz] at this
        exact this
      by_cases qz : arr k = 0
      · rw [if_pos (by rw [qz]; decide)]
        refine next _ ?_
        rw [orF_s, gW_0 (Ak.2.2.zero.mp qz), Nat.or_zero]
      · rw [if_neg (by rw [decide_eq_true_eq, z0, kI_inj (by omega) (by omega) (by omega) (by omega)]; omega), kI_or]
        refine next _ ?_
        have ex : ∃ l, 0 < Wy s y a b tt1 k l := Classical.byContradiction (fun z => qz (Ak.2.2.zero.mpr (fun l hl => z ⟨l, hl⟩)))
        obtain ⟨l, hl⟩ := ex
        have l13 := (Wy_l w P.wy hl).1
        rw [orF_s, gW_1 (l := l) (by omega) hl]
/-- from a mask a cell can be drawn -/
def OpM (s : ST) (y : DY) (a b c m : Nat) : Prop := ∃ l, 0 < Wy s y a b tt1 m l ∧ (mvG s y a b m l).testBit c = true
theorem Pa_opens_c {T : Nat → Nat} {s : ST} {p : Nat} {y : DY} {a b d : Nat} {h : AH} (G : PGr T s p y a b h) (hd : 1 ≤ d) {m c : Nat} (hm : m < 2 ^ sN s) (hc : c < 12) {K : Int32 → AH → Prop} : CallI d m_Pa_opens [.ref 57, .int (kI m), .int (kI c)] h K ↔ ((OpM s y a b c m → K (kI 1) h) ∧ (¬ OpM s y a b c m → K (kI 0) h)) := by
  have P := G.H
  have F := P.F
  have w := P.S.wf
  have pn := P.n
  have n2 := w.n12
  have wd := wdt_b w
  obtain ⟨arr, A⟩ := G.A
  have Am := A m hm
  have lar : m < lnA h (rvA h 57 9) := by have := P.xa.2.2.2.2.1; omega
  have key : ∀ x : Int32, (x = kI 1 ∧ OpM s y a b c m) ∨ (x = kI 0 ∧ ¬ OpM s y a b c m) → Ret 1 m_Pa_opens [.ref 57, .int (kI m), .int (kI c)] h (some (.int x)) h := by
    intro x hx
    refine ret_of (s_Pa_opens_0 ?_)
    suffices H : ∀ r, r ≤ wdt s → (∀ l, 0 < Wy s y a b tt1 m l → rnk s l < r → (mvG s y a b m l).testBit c = false) → Safe 0 m_Pa_opens (2, [.ref 57, .int (kI m), .int (kI c), .int (kI r)], [], h) (fun v k => v = some (.int x) ∧ k = h) by
      exact H 0 (by omega) (fun l _ z => absurd z (Nat.not_lt_zero _))
    refine down_ind (wdt s) ?_ ?_
    · intro no
      refine s_Pa_opens_2 ?_
      have ex : x = kI 0 := by
        rcases hx with ⟨_, l, h1, h2⟩ | z
        · rw [no l h1 (rnk_lt (Wy_l w P.wy h1).1)] at h2; cases h2
        · exact z.1
      rw [kd_57 F, P.i6, if_pos (by rw [decide_eq_true_eq, kI_le (by omega) (by omega) (by omega) (by omega)]; omega), ex]
      exact ⟨rfl, isB_0, rfl, rfl⟩
    · intro r hr ih no
      refine s_Pa_opens_2 ?_
      rw [kd_57 F, P.i6, if_neg (by rw [decide_eq_true_eq, kI_le (by omega) (by omega) (by omega) (by omega)]; omega), P.xa.2.2.2.1, ix_kI (by omega), Am.1, kI_bit (by omega) (by omega)]
      refine ⟨rfl, rfl, rfl, inB_kI (by omega) lar, ?_⟩
      by_cases qb : (arr m).testBit r = true
      · obtain ⟨l0, g1, g2⟩ := (Am.2.2 r).mp qb
        have ol := (Wy_l w P.wy g1).1
        have bd := idx_lt hm hr
        have lm := P.xm.2.2.2.2.1
        have em := G.M m l0 hm g1
        rw [g2] at em
        have mvl := mvG_lt w y a b m l0
        have ei : kI (m : Int) * kI (wdt s : Int) + kI (r : Int) = kI ((m * wdt s + r : Nat) : Int) := by rw [kI_mul, kI_add]; rfl
        rw [if_neg (by rw [dec_b0]; exact fun z => z qb), P.xm.2.2.2.1, ei, ix_kI (by omega), em, kI_bit (by omega) (by omega)]
        refine ⟨rfl, rfl, rfl, inB_kI (by omega) (by omega), ?_⟩
        by_cases qc : (mvG s y a b m l0).testBit c = true
        · have ex : x = kI 1 := by
            rcases hx with z | z
            · exact z.1
            · exact absurd ⟨l0, g1, qc⟩ z.2
          rw [if_neg (by rw [dec_b0]; exact fun z => z qc), ex]
          exact ⟨isB_1, rfl, rfl⟩
        · rw [if_pos (by rw [dec_b0]; exact qc), kI_add]
          refine ih (fun l hl hr' => ?_)
          by_cases z : rnk s l = r
          · rw [mvG_rnk2 w y a b m (Wy_l w P.wy hl).1 ol (by rw [z, g2])]
            simpa using qc
          · exact no l hl (by omega)
      · rw [if_pos (by rw [dec_b0]; exact qb), kI_add]
        refine ih (fun l hl hr' => no l hl ?_)
        have : rnk s l ≠ r := fun z => qb ((Am.2.2 r).mpr ⟨l, hl, z⟩)
        omega
  by_cases g : OpM s y a b c m
  · rw [Ret.I (key (kI 1) (Or.inl ⟨rfl, g⟩)) hd]
    exact ⟨fun w => ⟨fun _ => w, fun z => absurd g z⟩, fun w => w.1 g⟩
  · rw [Ret.I (key (kI 0) (Or.inr ⟨rfl, g⟩)) hd]
    exact ⟨fun w => ⟨fun z => absurd z g, fun _ => w⟩, fun w => w.2 g⟩
/-- what is drawn at all masks from which a cell can be drawn is what has to be drawn ahead -/
theorem ahe_bit {s : ST} (w : WFS s) {y : DY} (wy : WFY s y) {a c j : Nat} (hc : c < sN s) (hcD : (yD y).testBit c = false) : (aheV s y a c).testBit j = true ↔ ((∃ m, OpM s y a a c m) ∧ j < sN s ∧ (yD y).testBit j = false ∧ ∀ m, OpM s y a a c m → m.testBit j = true) := by
  have O := mvG_ok w y a a
  have n2 := w.n12
  have any : (rchV s y a a (fun _ => true)).testBit c = true ↔ ∃ m, OpM s y a a c m := by
    rw [rch_bit w wy]
    constructor
    · rintro ⟨_, z⟩
      obtain ⟨m, l, _, h1, h2⟩ := (CW_draw O hcD rfl).mp z
      exact ⟨m, l, h1, h2⟩
    · rintro ⟨m, l, h1, h2⟩
      have l13 := (Wy_l w wy h1).1
      exact ⟨hcD, (CW_draw O hcD rfl).mpr ⟨m, l, by omega, h1, h2⟩⟩
  unfold aheV
  by_cases q : (rchV s y a a (fun _ => true)).testBit c = true
  · rw [if_pos q, bitsB_bit]
    simp only [Bool.and_eq_true, decide_eq_true_eq, bne_iff_ne, Bool.not_eq_true']
    have ex := any.mp q
    constructor
    · rintro ⟨h1, h2, h3, h4⟩
      refine ⟨ex, h1, h3, fun m ⟨l, g1, g2⟩ => ?_⟩
      cases z : m.testBit j
      · exfalso
        have l13 := (Wy_l w wy g1).1
        have : (rchV s y a a (fun i => i != j)).testBit c = true := (rch_bit w wy).mpr ⟨hcD, (CW_draw O hcD (bt := fun i => i != j) (by simpa using fun e => h2 e.symm)).mpr ⟨m, l, by omega, (CW_but h3 m l).mpr ⟨g1, z⟩, g2⟩⟩
        rw [h4] at this
        cases this
      · rfl
    · rintro ⟨_, h1, h3, h4⟩
      have jc : j ≠ c := fun e => by
        obtain ⟨m, l, g1, g2⟩ := ex
        have := h4 m ⟨l, g1, g2⟩
        rw [e, (O m l c g2).2] at this
        cases this
      refine ⟨h1, jc, h3, ?_⟩
      cases z : (rchV s y a a (fun i => i != j)).testBit c
      · rfl
      · exfalso
        obtain ⟨_, z2⟩ := (rch_bit w wy).mp z
        obtain ⟨m, l, _, g1, g2⟩ := (CW_draw O hcD (bt := fun i => i != j) (by simpa using fun e => jc e.symm)).mp z2
        have g3 := (CW_but h3 m l).mp g1
        have := h4 m ⟨l, g3.1, g2⟩
        rw [g3.2] at this
        cases this
  · rw [if_neg q, Nat.zero_testBit]
    constructor
    · intro z; cases z
    · rintro ⟨z, _⟩; exact absurd (any.mpr z) q
theorem aheV_lt {s : ST} (w : WFS s) (y : DY) (a c : Nat) : aheV s y a c < 4096 := by
  unfold aheV
  split
  · exact Nat.lt_of_lt_of_le (bitsB_lt _ _) (Nat.pow_le_pow_right (n := 2) (by omega) w.n12)
  · omega
theorem Pa_needed_c {T : Nat → Nat} {s : ST} {p : Nat} {y : DY} {a d : Nat} {h : AH} (G : PGr T s p y a a h) (hd : 2 ≤ d) {c : Nat} (hc : c < sN s) (hcD : (yD y).testBit c = false) {K : Int32 → AH → Prop} : CallI d m_Pa_needed [.ref 57, .int (kI c)] h K ↔ K (kI (aheV s y a c : Nat)) h := by
  have P := G.H
  have F := P.F
  have w := P.S.wf
  have pn := P.n
  have n2 := w.n12
  have hD := P.wy.m12 w
  have hD2 := P.wy.1
  have hA := G.A
  obtain ⟨arr, A⟩ := hA
  refine Ret.I (d := 2) (ret_of (s_Pa_needed_0 ?_)) hd
  rw [kd_57 F, P.r1, P.S.k, P.S.i3, P.i5]
  refine ⟨rfl, rfl, rfl, ?_⟩
  suffices H : ∀ n k, 10000 - k ≤ n → subB (yD y) k → k ≤ 8191 → ∀ (x : Nat) (any : Bool), x < 4096 → (∀ j, x.testBit j = true ↔ (j < sN s ∧ ∀ m, m < k → OpM s y a a c m → m.testBit j = true)) → (any = true ↔ ∃ m, m < k ∧ OpM s y a a c m) → Safe 1 m_Pa_needed (16, [.ref 57, .int (kI c), .int (kI x), .int (kI (if any = true then 1 else 0)), .int (kI k)], [], h) (fun v k => v = some (.int (kI (aheV s y a c : Nat))) ∧ k = h) by
    refine H 10000 (yD y) (by omega) (subB_refl _) (by omega) (2 ^ sN s - 1) false (by omega) (fun j => ?_) ?_
    · rw [Nat.testBit_two_pow_sub_one, decide_eq_true_eq]
      constructor
      · intro z
        refine ⟨z, fun m hm ⟨l, g1, _⟩ => ?_⟩
        have : Wy s y a a tt1 m l = 0 := CW_lo hm
        omega
      · exact fun z => z.1
    · constructor
      · intro z; cases z
      · rintro ⟨m, hm, l, g1, _⟩
        have : Wy s y a a tt1 m l = 0 := CW_lo hm
        omega
  intro n
  induction n with
  | zero => intro k hn _ hk; omega
  | succ n ih =>
    intro k hn sb hk x any hx bx ax
    refine s_Pa_needed_16 ?_
    rw [kd_57 F, P.r1, P.S.k, P.S.i3]
    refine ⟨rfl, rfl, ?_⟩
    by_cases q : 2 ^ sN s ≤ k
    · rw [if_pos (by rw [decide_eq_true_eq, kI_lt (by omega) (by omega) (by omega) (by omega)]; omega)]
      have lt : ∀ m, OpM s y a a c m → m < k := fun m ⟨l, g1, _⟩ => by have := (Wy_l w P.wy g1).2.1; omega
      cases any with
      | false =>
        rw [if_pos (by decide)]
        have : aheV s y a c = 0 := bit_ext (fun j => by
          rw [Nat.zero_testBit]
          cases z : (aheV s y a c).testBit j
          · rfl
          · obtain ⟨⟨m, hm⟩, _⟩ := (ahe_bit w P.wy hc hcD).mp z
            exact absurd (ax.mpr ⟨m, lt m hm, hm⟩) (by decide))
        rw [this]
        exact ⟨rfl, rfl⟩
      | true =>
        obtain ⟨m0, _, hm0⟩ := ax.mp rfl
        rw [if_neg (by decide), P.i5, kI_dif]
        have : aheV s y a c = dif x (yD y) := bit_ext (fun j => by
          rw [Bool.eq_iff_iff, ahe_bit w P.wy hc hcD, dif_bit, Bool.and_eq_true, Bool.not_eq_true', bx j]
          constructor
          · rintro ⟨_, h1, h2, h3⟩; exact ⟨⟨h1, fun m _ hm => h3 m hm⟩, h2⟩
          · rintro ⟨⟨h1, h3⟩, h2⟩; exact ⟨⟨m0, hm0⟩, h1, h2, fun m hm => h3 m (lt m hm) hm⟩)
        rw [this]
        exact ⟨rfl, rfl, rfl⟩
    · have hk2 : k < 2 ^ sN s := by omega
      have Ak := A k hk2
      have lar : k < lnA h (rvA h 57 9) := by have := P.xa.2.2.2.2.1; omega
      have nx := next_lt w P.wy hk2
      rw [if_neg (by rw [decide_eq_true_eq, kI_lt (by omega) (by omega) (by omega) (by omega)]; omega), P.xa.2.2.2.1, ix_kI (by omega), Ak.1]
      refine ⟨rfl, rfl, inB_kI (by omega) lar, ?_⟩
      have next : ∀ (x' : Nat) (any' : Bool), x' < 4096 → (∀ j, x'.testBit j = true ↔ (j < sN s ∧ ∀ m, m < k + 1 → OpM s y a a c m → m.testBit j = true)) → (any' = true ↔ ∃ m, m < k + 1 ∧ OpM s y a a c m) → Safe 1 m_Pa_needed (55, [.ref 57, .int (kI c), .int (kI x'), .int (kI (if any' = true then 1 else 0)), .int (kI k)], [], h) (fun v k => v = some (.int (kI (aheV s y a c : Nat))) ∧ k = h) := by
        intro x' any' hx' bx' ax'
        refine s_Pa_needed_55 ?_
        have eo : kI (k : Int) + kI 1 = kI ((k + 1 : Nat) : Int) := by rw [kI_add]; rfl
        rw [kd_57 F, P.i5, eo, kI_or]
        have gap : ∀ m, m < (k + 1) ||| yD y → OpM s y a a c m → m < k + 1 := fun m hm ⟨l, g1, _⟩ => by
          by_cases z : m < k + 1
          · exact z
          · exact absurd (CW_sub _ _ g1) (sup_gap sb m (by omega) hm)
        refine ⟨rfl, ih ((k + 1) ||| yD y) (dec_next hn nx.1) (next_sub _ _) nx.2 x' any' hx' (fun j => ?_) ?_⟩
        · rw [bx' j]
          constructor
          · rintro ⟨h1, h2⟩; exact ⟨h1, fun m hm ho => h2 m (gap m hm ho) ho⟩
          · rintro ⟨h1, h2⟩; exact ⟨h1, fun m hm ho => h2 m (by omega) ho⟩
        · rw [ax']
          constructor
          · rintro ⟨m, h1, h2⟩; exact ⟨m, by omega, h2⟩
          · rintro ⟨m, h1, h2⟩; exact ⟨m, gap m h1 h2, h2⟩
      have same : ¬ OpM s y a a c k → Safe 1 m_Pa_needed (55, [.ref 57, .int (kI c), .int (kI x), .int (kI (if any = true then 1 else 0)), .int (kI k)], [], h) (fun v k => v = some (.int (kI (aheV s y a c : Nat))) ∧ k = h) := fun no => by
        refine next x any hx (fun j => ?_) ?_
        · rw [bx j]
          constructor
          · rintro ⟨h1, h2⟩
            refine ⟨h1, fun m hm ho => ?_⟩
            by_cases z : m = k
            · rw [z] at ho; exact absurd ho no
            · exact h2 m (by omega) ho
          · rintro ⟨h1, h2⟩; exact ⟨h1, fun m hm ho => h2 m (by omega) ho⟩
        · rw [ax]
          constructor
          · rintro ⟨m, h1, h2⟩; exact ⟨m, by omega, h2⟩
          · rintro ⟨m, h1, h2⟩
            by_cases z : m = k
            · rw [z] at h2; exact absurd h2 no
            · exact ⟨m, by omega, h2⟩
      by_cases qz : arr k = 0
      · rw [if_pos (by rw [qz]; decide)]
        exact same (fun ⟨l, g1, _⟩ => Ak.2.2.zero.mp qz l g1)
      · rw [if_neg (by rw [decide_eq_true_eq, z0, kI_inj (by omega) (by omega) (by omega) (by omega)]; omega)]
        refine ⟨rfl, ?_⟩
        rw [Pa_opens_c G (by omega) hk2 (by omega)]
        refine ⟨fun op => ?_, fun no => ?_⟩
        · rw [if_neg (by decide), kI_and]
          refine next (x &&& k) true (and_lt (n := 12) hx) (fun j => ?_) ?_
          · rw [Nat.testBit_and, Bool.and_eq_true, bx j]
            constructor
            · rintro ⟨⟨h1, h2⟩, h3⟩
              refine ⟨h1, fun m hm ho => ?_⟩
              by_cases z : m = k
              · rw [z]; exact h3
              · exact h2 m (by omega) ho
            · rintro ⟨h1, h2⟩; exact ⟨⟨h1, fun m hm ho => h2 m (by omega) ho⟩, h2 k (by omega) op⟩
          · exact ⟨fun _ => ⟨k, by omega, op⟩, fun _ => rfl⟩
        · rw [if_pos (by decide)]
          exact same no
