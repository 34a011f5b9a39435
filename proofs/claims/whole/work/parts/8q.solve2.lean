/-! settling, solving, tracing -/
theorem VO_V (s : ST) (y : DY) (a b aim tg m l : Nat) (f : Nat → Int) : WV s y a b aim tg m l f = VO (yD y) (odF s y) aim tg m (mvG s y a b m l) f := rfl
def ValOk (s : ST) (y : DY) (a b aim tg va k : Nat) (h : AH) : Prop := ∀ m l, k ≤ m → 0 < Wy s y a b tt1 m l → ¬ byd y aim tg m → ivA h va (m * wdt s + rnk s l) = kI (WT s y a b aim tg m l)
abbrev FVa (va : Nat) (h h' : AH) : Prop := Fr (fun x _ => x = va) I0 h h'
theorem PHd.va {T : Nat → Nat} {s : ST} {p : Nat} {y : DY} {a b ar mo va : Nat} {h h' : AH} (P : PHd T s p y a b ar mo va h) (e : FVa va h h') : PHd T s p y a b ar mo va h' := P.fr e (fun x k z => by
  subst z
  have := P.xv.2.1
  exact ⟨by omega, P.xv.out (by omega) (by omega), fun z => absurd z (P.xv.out (by omega) (by omega))⟩)
/-- what the aim and target may be -/
def AimOk (y : DY) (aim tg : Nat) : Prop := aim ≤ 4 ∧ tg ≤ 12 ∧ (aim = 4 → tg ≤ 1) ∧ (aim = 0 ∨ aim = 2 → tg < 12 ∧ (yD y).testBit tg = false)
theorem Pa_settle_g {T : Nat → Nat} {s : ST} {p : Nat} {y : DY} {a b ar mo va aim tg : Nat} {h : AH} (P : PHd T s p y a b ar mo va h) (O : ∀ c, c < sN s → ivA h 62 c = kI (odF s y c)) (i12 : ivA h 57 12 = kI aim) (i13 : ivA h 57 13 = kI tg) (ok : AimOk y aim tg) {k : Nat} (hk : k < 2 ^ sN s) (sb : subB (yD y) k) (nb : ¬ byd y aim tg k) (A : ArrOk s y a b ar h) (M : MovOk s y a b mo (2 ^ sN s) h) (V : ValOk s y a b aim tg va (k + 1) h) : GV 5 m_Pa_settle [.ref 57, .int (kI k)] h (fun h' => FVa va h h' ∧ ValOk s y a b aim tg va k h') := by
  have F := P.F
  have w := P.S.wf
  have pn := P.n
  have wd := wdt_b w
  have n2 := w.n12
  obtain ⟨arr, A⟩ := A
  have Ak := A k hk
  have lar : k < lnA h ar := by have := P.xa.2.2.2.2.1; omega
  have eb : kI (k : Int) * kI (wdt s : Int) = kI ((k * wdt s : Nat) : Int) := by rw [kI_mul]; rfl
  have t57 := P.xv.out (i := 57) (by omega) (by omega)
  have t62 := P.xv.out (i := 62) (by omega) (by omega)
  obtain ⟨f, hf⟩ : ∃ f : Nat → Int, f = fun c => WT s y a b aim tg (k ||| 2 ^ c) c := ⟨_, rfl⟩
  have wt : ∀ l, WT s y a b aim tg k l = VO (yD y) (odF s y) aim tg k (mvG s y a b k l) f := fun l => by
    rw [hf]; exact WT_eq w (by omega)
  refine GVo (s_Pa_settle_0 ?_)
  rw [kd_57 F, P.r9, P.xa.2.2.2.1, ix_kI (by omega), Ak.1, P.i6, eb]
  refine ⟨rfl, rfl, inB_kI (by omega) lar, rfl, ?_⟩
  suffices H : ∀ r, r ≤ wdt s → ∀ (h2 : AH) (o x : Int), FVa va h h2 → ValOk s y a b aim tg va (k + 1) h2 → (∀ l, 0 < Wy s y a b tt1 k l → rnk s l < r → ivA h2 va (k * wdt s + rnk s l) = kI (WT s y a b aim tg k l)) → (o = -1 ∨ ∃ op : Nat, op < 4096 ∧ o = op ∧ x = VO (yD y) (odF s y) aim tg k op f) → Safe 4 m_Pa_settle (23, [.ref 57, .int (kI k), .int (kI (arr k)), .int (kI ((k * wdt s : Nat) : Int)), .int (kI o), .int (kI x), .int (kI r)], [], h2) (fun v h' => Eqv v none ∧ FVa va h h' ∧ ValOk s y a b aim tg va k h') by
    exact H 0 (by omega) h (-1) 0 (Fr_rfl _ _ _) V (fun l _ z => absurd z (Nat.not_lt_zero _)) (Or.inl rfl)
  refine down_ind (wdt s) ?_ ?_
  · intro h2 o x e2 V2 K2 ox
    have P2 := P.va e2
    refine s_Pa_settle_23 ?_
    rw [kd_57 P2.F, P2.i6, if_pos (by rw [decide_eq_true_eq, kI_le (by omega) (by omega) (by omega) (by omega)]; omega)]
    refine ⟨rfl, rfl, e2, fun m l hm hl hb => ?_⟩
    by_cases z : m = k
    · rw [z] at hl ⊢
      exact K2 l hl (rnk_lt (Wy_l w P.wy hl).1)
    · exact V2 m l (by omega) hl hb
  · intro r hr ih h2 o x e2 V2 K2 ox
    have P2 := P.va e2
    have F2 := P2.F
    refine s_Pa_settle_23 ?_
    rw [kd_57 F2, P2.i6, if_neg (by rw [decide_eq_true_eq, kI_le (by omega) (by omega) (by omega) (by omega)]; omega), kI_bit (by omega) (by omega)]
    refine ⟨rfl, ?_⟩
    by_cases qb : (arr k).testBit r = true
    · obtain ⟨l0, g1, g2⟩ := (Ak.2.2 r).mp qb
      have ol := (Wy_l w P.wy g1).1
      have bd := idx_lt hk hr
      have lm2 : k * wdt s + r < lnA h2 mo := by have := P2.xm.2.2.2.2.1; omega
      have lv2 : k * wdt s + r < lnA h2 va := by have := P2.xv.2.2.2.2.1; omega
      have ei : kI ((k * wdt s : Nat) : Int) + kI (r : Int) = kI ((k * wdt s + r : Nat) : Int) := by rw [kI_add]; rfl
      have em : ivA h2 mo (k * wdt s + r) = kI (mvG s y a b k l0) := by
        rw [e2.2.2.2.2.2.1 mo _ P.ne.2.2, ← g2]
        exact M k l0 hk g1
      have mvl := mvG_lt w y a b k l0
      have s75 : ∀ x', x' = WT s y a b aim tg k l0 → Safe 4 m_Pa_settle (75, [.ref 57, .int (kI k), .int (kI (arr k)), .int (kI ((k * wdt s : Nat) : Int)), .int (kI (mvG s y a b k l0 : Nat)), .int (kI x'), .int (kI r)], [], h2) (fun v h' => Eqv v none ∧ FVa va h h' ∧ ValOk s y a b aim tg va k h') := by
        intro x' hx
        refine s_Pa_settle_75 ?_
        rw [kd_57 F2, P2.r11, P2.xv.2.2.2.1, ei, ix_kI (by omega), kI_add]
        refine ⟨rfl, rfl, inB_kI (by omega) lv2, ?_⟩
        refine ih _ (mvG s y a b k l0) x' (e2.stI rfl _) (fun m l hm hl hb => ?_) (fun l hl hr' => ?_) (Or.inr ⟨_, mvl, rfl, by rw [hx, wt]⟩)
        · have rl := rnk_lt (Wy_l w P.wy hl).1
          rw [iv_stI, if_neg (fun z => by have := idx_inj rl hr z.2; omega)]
          exact V2 m l hm hl hb
        · rw [iv_stI]
          by_cases z : rnk s l = r
          · rw [if_pos ⟨rfl, by rw [z]⟩, hx, WT_rnk w y a b aim tg (by omega) (Wy_l w P.wy hl).1 ol (by rw [z, g2])]
          · rw [if_neg (fun z2 => by omega)]
            exact K2 l hl (by omega)
      rw [if_neg (by rw [dec_b0]; exact fun z => z qb), P2.r10, P2.xm.2.2.2.1, ei, ix_kI (by omega), em]
      refine ⟨rfl, rfl, inB_kI (by omega) lm2, ?_⟩
      by_cases qo : kI (mvG s y a b k l0 : Nat) = kI o
      · rw [if_pos (by rw [decide_eq_true_eq]; exact qo)]
        rcases ox with z | ⟨op, z1, z2, z3⟩
        · rw [z, kI_inj (by omega) (by omega) (by omega) (by omega)] at qo
          omega
        · rw [z2, kI_inj (by omega) (by omega) (by omega) (by omega)] at qo
          have : op = mvG s y a b k l0 := by omega
          rw [z2, this]
          exact s75 x (by rw [z3, this, wt])
      · rw [if_neg (by rw [decide_eq_true_eq]; exact qo)]
        refine ⟨rfl, rfl, inB_kI (by omega) lm2, rfl, ?_⟩
        rw [Pa_worth_c P2 (fun c hc => by rw [e2.2.2.2.2.2.1 62 _ (fun z => t62 z.symm)]; exact O c hc) (by rw [e2.2.2.2.2.2.1 57 _ (fun z => t57 z.symm)]; exact i12) (by rw [e2.2.2.2.2.2.1 57 _ (fun z => t57 z.symm)]; exact i13) ok.1 ok.2.1 ok.2.2.1 (fun z => (ok.2.2.2 z).1) (by omega) hk sb nb (fun c hc => mvG_N w hc) ?_ (fun c hc hb => ?_)]
        · refine s75 _ ?_
          rw [wt, hf]
        · refine Nat.lt_of_not_le (fun z => ?_)
          have nz : mvG s y a b k l0 ≠ 0 := by omega
          have lt : mvG s y a b k l0 < 2 ^ sN s := by
            refine Nat.lt_pow_two_of_testBit _ (fun i hi => ?_)
            exact mvG_hi w hi
          omega
        · have nc := mvG_N w hc
          have := bit_lt nc.2
          exact V2 _ _ (by omega) (CW_step (mvG_ok w y a b) (by omega) g1 hc rfl) hb
    · rw [if_pos (by rw [dec_b0]; exact qb), kI_add]
      refine ih h2 o x e2 V2 (fun l hl hr' => ?_) ox
      have : rnk s l ≠ r := fun z => qb ((Ak.2.2 r).mpr ⟨l, hl, z⟩)
      exact K2 l hl (by omega)
theorem Pa_isBeyond_c {T : Nat → Nat} {s : ST} {p : Nat} {y : DY} {a b ar mo va d aim tg : Nat} {h : AH} (P : PHd T s p y a b ar mo va h) (i12 : ivA h 57 12 = kI aim) (i13 : ivA h 57 13 = kI tg) (ok : AimOk y aim tg) (hd : 3 ≤ d) {k : Nat} (hk : k < 4096) (sb : subB (yD y) k) {K : Int32 → AH → Prop} : CallI d m_Pa_isBeyond [.ref 57, .int (kI k)] h K ↔ ((byd y aim tg k → K (kI 1) h) ∧ (¬ byd y aim tg k → K (kI 0) h)) := by
  have F := P.F
  have pk := pop_le k
  have key : ∀ x : Int32, (x = kI 1 ∧ byd y aim tg k) ∨ (x = kI 0 ∧ ¬ byd y aim tg k) → Ret 3 m_Pa_isBeyond [.ref 57, .int (kI k)] h (some (.int x)) h := by
    intro x hx
    have y1 : byd y aim tg k → x = kI 1 := fun z => by rcases hx with q | q; exact q.1; exact absurd z q.2
    have y0' : ¬ byd y aim tg k → x = kI 0 := fun z => by rcases hx with q | q; exact absurd q.2 z; exact q.1
    refine ret_of (s_Pa_isBeyond_0 ?_)
    rw [kd_57 F, i12]
    refine ⟨rfl, ?_⟩
    have s36 : (aim = 0 ∨ aim = 2) → Safe 2 m_Pa_isBeyond (36, [.ref 57, .int (kI k)], [], h) (fun w k => w = some (.int x) ∧ k = h) := fun q => by
      have t12 := (ok.2.2.2 q).1
      refine s_Pa_isBeyond_36 ?_
      rw [kd_57 F, i13, kI_bit (by omega) (by omega)]
      refine ⟨rfl, ?_⟩
      by_cases qb : k.testBit tg = true
      · rw [if_neg (by rw [dec_b0]; exact fun z => z qb), y1 (Or.inl ⟨q, qb⟩)]
        exact ⟨isB_1, rfl, rfl⟩
      · rw [if_pos (by rw [dec_b0]; exact qb), y0' (fun z => by rcases z with z | z; exact qb z.2; omega)]
        exact ⟨isB_0, rfl, rfl⟩
    have o1 := ok.1
    have e : aim = 0 ∨ aim = 1 ∨ aim = 2 ∨ aim = 3 ∨ aim = 4 := by omega
    rcases e with rfl | rfl | rfl | rfl | rfl
    · rw [if_pos (by decide)]
      exact s36 (Or.inl rfl)
    · rw [if_neg (by decide), if_pos (by decide), y0' (fun z => by unfold byd at z; omega)]
      exact ⟨isB_0, rfl, rfl⟩
    · rw [if_neg (by decide), if_neg (by decide), if_pos (by decide)]
      exact s36 (Or.inr rfl)
    · rw [if_neg (by decide), if_neg (by decide), if_neg (by decide), if_pos (by decide)]
      have ot := ok.2.1
      refine ⟨rfl, ?_⟩
      rw [Pa_strokesTo_c P (by omega) hk sb, kd_57 F, i13]
      refine ⟨rfl, ?_⟩
      by_cases q : tg < pop k - pop (yD y)
      · rw [if_neg (by rw [decide_eq_true_eq, kI_le (by omega) (by omega) (by omega) (by omega)]; omega), y1 (Or.inr ⟨rfl, q⟩)]
        exact ⟨isB_1, rfl, rfl⟩
      · rw [if_pos (by rw [decide_eq_true_eq, kI_le (by omega) (by omega) (by omega) (by omega)]; omega), y0' (fun z => by unfold byd at z; omega)]
        exact ⟨isB_0, rfl, rfl⟩
    · rw [if_neg (by decide), if_neg (by decide), if_neg (by decide), if_neg (by decide), y0' (fun z => by unfold byd at z; omega)]
      exact ⟨isB_0, rfl, rfl⟩
  by_cases g : byd y aim tg k
  · rw [Ret.I (key (kI 1) (Or.inl ⟨rfl, g⟩)) hd]
    exact ⟨fun w => ⟨fun _ => w, fun z => absurd g z⟩, fun w => w.1 g⟩
  · rw [Ret.I (key (kI 0) (Or.inr ⟨rfl, g⟩)) hd]
    exact ⟨fun w => ⟨fun z => absurd z g, fun _ => w⟩, fun w => w.2 g⟩
/-! the steps -/
theorem Pa_leads_c {T : Nat → Nat} {s : ST} {p : Nat} {y : DY} {a b ar mo va d aim tg : Nat} {h : AH} (P : PHd T s p y a b ar mo va h) (O : ∀ c, c < sN s → ivA h 62 c = kI (odF s y c)) (i12 : ivA h 57 12 = kI aim) (i13 : ivA h 57 13 = kI tg) (ok : AimOk y aim tg) (a3 : aim < 4) (hd : 1 ≤ d) {m l c : Nat} (hm : m < 2 ^ sN s) (hc : (mvG s y a b m l).testBit c = true) (V : ¬ (c = tg ∧ (aim = 2 ∨ aim = 0)) → ivA h va ((m ||| 2 ^ c) * wdt s + rnk s c) = kI (WT s y a b aim tg (m ||| 2 ^ c) c)) {K : Int32 → AH → Prop} : CallI d m_Pa_leads [.ref 57, .int (kI ((m * wdt s : Nat) : Int)), .int (kI c), .int (kI (WT s y a b aim tg m l))] h K ↔ K (bI32 (ldB s y a b aim tg m l c = true)) h := by
  have F := P.F
  have w := P.S.wf
  have pn := P.n
  have n2 := w.n12
  have wd := wdt_b w
  have nc := mvG_N w hc
  have ot := ok.2.1
  have c12 : c < 12 := by omega
  have bs : m * wdt s ≤ 60000 := by
    have := Nat.mul_le_mul (show m ≤ 4095 by omega) wd.2
    omega
  have r1 := WT_rng w (y := y) (a := a) (b := b) (aim := aim) (tg := tg) (l := l) ok.1 ok.2.2.1 (show m < 4096 by omega)
  have r2 := WT_rng w (y := y) (a := a) (b := b) (aim := aim) (tg := tg) (l := c) ok.1 ok.2.2.1 (or_4096 (show m < 4096 by omega) c12)
  refine Ret.I (d := 1) (ret_of (s_Pa_leads_0 ?_)) hd
  have s37 : ¬ (c = tg ∧ (aim = 2 ∨ aim = 0)) → Safe 0 m_Pa_leads (37, [.ref 57, .int (kI ((m * wdt s : Nat) : Int)), .int (kI c), .int (kI (WT s y a b aim tg m l))], [], h) (fun v k => v = some (.int (bI32 (ldB s y a b aim tg m l c = true))) ∧ k = h) := fun q => by
    have Vc := V q
    have wcb : 0 ≤ wcF s y aim c ∧ wcF s y aim c ≤ 999 := by
      unfold wcF
      split
      · exact odF_b s y c
      · omega
    have VR : VRd s (fun k => k == c) (m * wdt s) va (fun k => WT s y a b aim tg (m ||| 2 ^ k) k) h := fun k hk => by
      have e : k = c := by simpa using hk
      subst e
      have rk := rnk_lt (s := s) (l := k) (Or.inr nc.1)
      have lt := idx_lt (or_lt2 hm nc.1) rk
      have lv := P.xv.2.2.2.2.1
      rw [leap_idx nc.2]
      exact ⟨c12, by omega, Vc, r2.1, r2.2⟩
    have rd := Pa_rd P VR bs (c := c) (by simp)
    have s55 : Safe 0 m_Pa_leads (55, [.ref 57, .int (kI ((m * wdt s : Nat) : Int)), .int (kI c), .int (kI (WT s y a b aim tg m l))], [.int (kI (wcF s y aim c))], h) (fun v k => v = some (.int (bI32 (ldB s y a b aim tg m l c = true))) ∧ k = h) := by
      refine s_Pa_leads_55 ?_
      rw [rd.2.2.2.2.2, kI_add]
      refine ⟨rd.1, rd.1, rd.2.1, rd.2.2.1, rd.2.2.2.1, rd.2.2.2.2.1, ?_⟩
      unfold ldB
      rw [hc, Bool.true_and, if_neg q]
      by_cases z : wcF s y aim c + WT s y a b aim tg (m ||| 2 ^ c) c = WT s y a b aim tg m l
      · rw [if_neg (by rw [z]; simp), decide_eq_true z]
        exact ⟨isB_1, rfl, rfl⟩
      · rw [if_pos (by rw [Bool.not_eq_true', decide_eq_false_iff_not, kI_inj (by omega) (by omega) (by omega) (by omega)]; exact z), decide_eq_false z]
        exact ⟨isB_0, rfl, rfl⟩
    refine s_Pa_leads_37 ?_
    rw [kd_57 F, i12]
    refine ⟨rfl, ?_⟩
    by_cases q3 : aim = 3
    · have ew : wcF s y aim c = odF s y c := by unfold wcF; rw [if_pos q3]
      rw [ew] at s55
      rw [if_neg (by rw [q3]; decide), rv_57_15 F, kd_62 F, ln_62 F, ix_kI (by omega), O c nc.1]
      exact ⟨rfl, rfl, inB_kI (by omega) c12, s55⟩
    · have ew : wcF s y aim c = 1 := by unfold wcF; rw [if_neg q3]
      rw [ew] at s55
      rw [if_pos (by rw [Bool.not_eq_true', decide_eq_false_iff_not, kI_inj (by omega) (by omega) (by omega) (by omega)]; omega)]
      exact s55
  have s23 : c = tg → (aim = 2 ∨ aim = 0) → Safe 0 m_Pa_leads (23, [.ref 57, unV, unV, unV], [], h) (fun v k => v = some (.int (bI32 (ldB s y a b aim tg m l c = true))) ∧ k = h) := fun q1 q2 => by
    refine s_Pa_leads_23 ?_
    rw [kd_57 F, i12]
    refine ⟨rfl, ?_⟩
    have el : ldB s y a b aim tg m l c = (aim == 2) := by
      unfold ldB
      rw [hc, Bool.true_and, if_pos ⟨q1, q2⟩]
    rw [el]
    rcases q2 with q | q
    · rw [q, if_neg (by decide)]
      exact ⟨isB_1, rfl, rfl⟩
    · rw [q, if_pos (by decide)]
      exact ⟨isB_0, rfl, rfl⟩
  rw [kd_57 F, i12, i13]
  refine ⟨rfl, ?_⟩
  by_cases q : c = tg
  · rw [if_neg (by rw [q]; simp)]
    refine ⟨rfl, ?_⟩
    by_cases q2 : aim = 2
    · rw [if_pos (by rw [q2]; decide)]
      exact s23 q (Or.inl q2)
    · rw [if_neg (by rw [decide_eq_true_eq, kI_inj (by omega) (by omega) (by omega) (by omega)]; omega)]
      refine ⟨rfl, ?_⟩
      by_cases q0 : aim = 0
      · rw [if_neg (by rw [q0]; decide)]
        exact s23 q (Or.inr q0)
      · rw [if_pos (by rw [Bool.not_eq_true', decide_eq_false_iff_not, z0, kI_inj (by omega) (by omega) (by omega) (by omega)]; omega)]
        exact s37 (by omega)
  · rw [if_pos (by rw [Bool.not_eq_true', decide_eq_false_iff_not, kI_inj (by omega) (by omega) (by omega) (by omega)]; omega)]
    exact s37 (fun z => q z.1)
/-- the next step, as an int -/
def nsI (s : ST) (y : DY) (a b aim tg m l : Nat) : Int := if endB y aim tg m = true then -1 else match fsF (ldB s y a b aim tg m l) 0 12 with
  | some c => (c : Int)
  | none => -1
theorem fsF_from {p : Nat → Bool} {k : Nat} (h : ∀ j, j < k → p j = false) (hk : k ≤ 12) : fsF p 0 12 = fsF p k (12 - k) := by
  have key : ∀ t, t ≤ k → fsF p 0 12 = fsF p t (12 - t) := by
    intro t
    induction t with
    | zero => intro _; rfl
    | succ t ih =>
      intro ht
      rw [ih (by omega), show 12 - t = (12 - (t + 1)) + 1 by omega, fsF_s, if_neg (by rw [h t (by omega)]; decide)]
  exact key k (Nat.le_refl _)
theorem Pa_nextStep_c {T : Nat → Nat} {s : ST} {p : Nat} {y : DY} {a b ar mo va d aim tg : Nat} {h : AH} (P : PHd T s p y a b ar mo va h) (O : ∀ c, c < sN s → ivA h 62 c = kI (odF s y c)) (i12 : ivA h 57 12 = kI aim) (i13 : ivA h 57 13 = kI tg) (ok : AimOk y aim tg) (a3 : aim < 4) (M : MovOk s y a b mo (2 ^ sN s) h) (V : ValOk s y a b aim tg va 0 h) (hd : 3 ≤ d) {m l : Nat} (hw : 0 < Wy s y a b tt1 m l) (nb : ¬ byd y aim tg m ∨ endB y aim tg m = true) {K : Int32 → AH → Prop} : CallI d m_Pa_nextStep [.ref 57, .int (kI m), .int (kI (rnk s l : Nat))] h K ↔ K (kI (nsI s y a b aim tg m l)) h := by
  have F := P.F
  have w := P.S.wf
  have pn := P.n
  have n2 := w.n12
  have wd := wdt_b w
  have wl := Wy_l w P.wy hw
  have hm := wl.2.1
  have rl := rnk_lt wl.1
  have m12 : m < 4096 := by omega
  have pm := pop_le m
  have px := pop_xor wl.2.2
  have ot := ok.2.1
  have eb : kI (m : Int) * kI (wdt s : Int) = kI ((m * wdt s : Nat) : Int) := by rw [kI_mul]; rfl
  have ei : kI ((m * wdt s : Nat) : Int) + kI (rnk s l : Int) = kI ((m * wdt s + rnk s l : Nat) : Int) := by rw [kI_add]; rfl
  have bd := idx_lt hm rl
  have lm := P.xm.2.2.2.2.1
  have lv := P.xv.2.2.2.2.1
  have mvl := mvG_lt w y a b m l
  have em := M m l hm hw
  refine Ret.I (d := 3) (ret_of (s_Pa_nextStep_0 ?_)) hd
  have s41 : endB y aim tg m = false → Safe 2 m_Pa_nextStep (41, [.ref 57, .int (kI m), .int (kI (rnk s l : Nat)), unV, unV, unV], [], h) (fun v k => v = some (.int (kI (nsI s y a b aim tg m l))) ∧ k = h) := fun he => by
    have nby : ¬ byd y aim tg m := by
      rcases nb with z | z
      · exact z
      · rw [he] at z; cases z
    have ev := V m l (Nat.zero_le _) hw nby
    have ns : nsI s y a b aim tg m l = match fsF (ldB s y a b aim tg m l) 0 12 with | some c => (c : Int) | none => -1 := by unfold nsI; rw [if_neg (by rw [he]; decide)]
    have nbc : ∀ c, (mvG s y a b m l).testBit c = true → ¬ (c = tg ∧ (aim = 2 ∨ aim = 0)) → ¬ byd y aim tg (m ||| 2 ^ c) := fun c hc q z => by
      have nc := mvG_N w hc
      rcases z with z | z
      · have mt : m.testBit tg = false := by
          cases zz : m.testBit tg
          · rfl
          · exact absurd (Or.inl ⟨z.1, zz⟩) nby
        have := z.2
        rw [Nat.testBit_or, mt, two_bit] at this
        simp at this
        exact q ⟨this, by omega⟩
      · have pc := pop_or (show c < 12 by omega) nc.2
        unfold endB at he
        have e3 := z.1
        subst e3
        have : ¬ pop m - pop (yD y) = tg := by simpa using he
        unfold byd at nby
        omega
    refine s_Pa_nextStep_41 ?_
    rw [kd_57 F, P.i6, P.r10, P.xm.2.2.2.1, eb, ei, ix_kI (by omega), em]
    refine ⟨rfl, rfl, rfl, inB_kI (by omega) (by omega), ?_⟩
    suffices H : ∀ k, k ≤ 12 → (∀ j, j < k → ldB s y a b aim tg m l j = false) → Safe 2 m_Pa_nextStep (61, [.ref 57, unV, .int (kI (rnk s l : Nat)), .int (kI ((m * wdt s : Nat) : Int)), .int (kI (mvG s y a b m l : Nat)), .int (kI k)], [], h) (fun v k => v = some (.int (kI (nsI s y a b aim tg m l))) ∧ k = h) by
      exact H 0 (by omega) (fun j hj => by omega)
    have none_of : (∀ j, j < 12 → ldB s y a b aim tg m l j = false) → nsI s y a b aim tg m l = -1 := fun z => by
      rw [ns]
      cases e : fsF (ldB s y a b aim tg m l) 0 12 with
      | none => rfl
      | some c =>
        have := fsF_some 12 0 c e
        rw [z c (by omega)] at this
        cases this.2.2.1
    refine down_ind 12 ?_ ?_
    · intro nl
      refine s_Pa_nextStep_61 ?_
      rw [kd_57 F, rv_57_8 F, kd_58 F, ln_58 F, if_pos (by decide), none_of nl]
      exact ⟨rfl, rfl, rfl, rfl⟩
    · intro k hk ih nl
      refine s_Pa_nextStep_61 ?_
      rw [kI_bit (by omega) (by omega), kI_shr (by omega) (by omega)]
      refine ⟨by rw [kd_57 F]; rfl, by rw [rv_57_8 F, kd_58 F]; rfl, ?_⟩
      rw [if_neg (by rw [rv_57_8 F, ln_58 F, decide_eq_true_eq, kI_le (by omega) (by omega) (by omega) (by omega)]; omega)]
      have dl : mvG s y a b m l / 2 ^ k ≤ mvG s y a b m l := Nat.div_le_self _ _
      have dz : 0 ≤ ((mvG s y a b m l / 2 ^ k : Nat) : Int) := Int.natCast_nonneg _
      have noB : ∀ j, (mvG s y a b m l).testBit j = false → ldB s y a b aim tg m l j = false := fun j hj => by unfold ldB; rw [hj]; rfl
      by_cases q0 : mvG s y a b m l / 2 ^ k = 0
      · rw [if_pos (by rw [q0]; decide), none_of (fun j hj => by
          by_cases z : j < k
          · exact nl j z
          · exact noB j (shr0 q0 j (by omega)))]
        exact ⟨rfl, rfl⟩
      · rw [if_neg (by rw [decide_eq_true_eq, z0, kI_inj (by omega) (by omega) (by omega) (by omega)]; omega)]
        have step : ldB s y a b aim tg m l k = false → Safe 2 m_Pa_nextStep (61, [.ref 57, unV, .int (kI (rnk s l : Nat)), .int (kI ((m * wdt s : Nat) : Int)), .int (kI (mvG s y a b m l : Nat)), .int (kI k + kI 1)], [], h) (fun v k => v = some (.int (kI (nsI s y a b aim tg m l))) ∧ k = h) := fun z => by
          rw [kI_add]
          exact ih (fun j hj => by
            by_cases e : j = k
            · rw [e]; exact z
            · exact nl j (by omega))
        by_cases qb : (mvG s y a b m l).testBit k = true
        · rw [if_neg (by rw [dec_b0]; exact fun z => z qb), P.r11, P.xv.2.2.2.1, ei, ix_kI (by omega), ev, kd_57 F]
          refine ⟨rfl, rfl, inB_kI (by omega) (by omega), rfl, ?_⟩
          rw [Pa_leads_c P O i12 i13 ok a3 (by omega) hm qb (fun q => ?_)]
          · by_cases z : ldB s y a b aim tg m l k = true
            · rw [if_neg (by rw [dec_b0]; exact fun q => q z)]
              have : fsF (ldB s y a b aim tg m l) 0 12 = some k := by
                rw [fsF_from nl (by omega), show 12 - k = (11 - k) + 1 by omega, fsF_s, if_pos z]
              rw [ns, this]
              exact ⟨rfl, rfl⟩
            · rw [if_pos (by rw [dec_b0]; exact z)]
              exact step (by simpa using z)
          · have nc := mvG_N w qb
            exact V _ _ (Nat.zero_le _) (CW_step (mvG_ok w y a b) (by omega) hw qb rfl) (nbc k qb q)
        · rw [if_pos (by rw [dec_b0]; exact qb)]
          exact step (noB k (by simpa using qb))
  have s19 : (aim = 2 → m.testBit tg = false) → Safe 2 m_Pa_nextStep (19, [.ref 57, .int (kI m), .int (kI (rnk s l : Nat)), unV, unV, unV], [], h) (fun v k => v = some (.int (kI (nsI s y a b aim tg m l))) ∧ k = h) := fun h2 => by
    refine s_Pa_nextStep_19 ?_
    rw [kd_57 F, i12]
    refine ⟨rfl, ?_⟩
    by_cases q3 : aim = 3
    · rw [if_neg (by rw [q3]; decide)]
      refine ⟨rfl, ?_⟩
      rw [Pa_strokesTo_c P (by omega) m12 wl.2.2, kd_57 F, i13]
      refine ⟨rfl, ?_⟩
      by_cases z : pop m - pop (yD y) = tg
      · have he : endB y aim tg m = true := by unfold endB; rw [q3, z]; simp
        rw [if_neg (by rw [z]; simp)]
        unfold nsI
        rw [if_pos he]
        exact ⟨rfl, rfl⟩
      · rw [if_pos (by rw [Bool.not_eq_true', decide_eq_false_iff_not, kI_inj (by omega) (by omega) (by omega) (by omega)]; omega)]
        exact s41 (by unfold endB; rw [q3]; simpa using z)
    · rw [if_pos (by rw [Bool.not_eq_true', decide_eq_false_iff_not, kI_inj (by omega) (by omega) (by omega) (by omega)]; omega)]
      refine s41 ?_
      unfold endB
      have a3' : (aim == 3) = false := by simpa using q3
      rw [a3']
      by_cases q2 : aim = 2
      · rw [h2 q2]; simp
      · have a2' : (aim == 2) = false := by simpa using q2
        rw [a2']; rfl
  rw [kd_57 F, i12, i13]
  refine ⟨rfl, ?_⟩
  by_cases q2 : aim = 2
  · have t12 := (ok.2.2.2 (Or.inr q2)).1
    rw [if_neg (by rw [q2]; decide), kI_bit (by omega) (by omega)]
    refine ⟨rfl, ?_⟩
    by_cases z : m.testBit tg = true
    · have he : endB y aim tg m = true := by unfold endB; rw [q2, z]; rfl
      rw [if_pos (by rw [Bool.not_eq_true', decide_eq_false_iff_not, bI_0]; exact fun q => q z)]
      unfold nsI
      rw [if_pos he]
      exact ⟨rfl, rfl⟩
    · rw [if_neg (by rw [Bool.not_eq_true', decide_eq_false_iff_not, bI_0]; exact fun q => q z)]
      exact s19 (fun _ => by simpa using z)
  · rw [if_pos (by rw [Bool.not_eq_true', decide_eq_false_iff_not, kI_inj (by omega) (by omega) (by omega) (by omega)]; omega)]
    exact s19 (fun z => absurd z q2)
