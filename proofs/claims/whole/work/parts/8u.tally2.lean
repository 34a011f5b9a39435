/-! counting rows: one mask, all masks -/
theorem sumF_one (v : Nat → Nat) (c : Nat) : ∀ n, sumF (fun l => if l = c then v l else 0) n = if c < n then v c else 0
  | 0 => by rw [if_neg (Nat.not_lt_zero _)]; rfl
  | n + 1 => by
    rw [sumF_s, sumF_one v c n]
    by_cases e : n = c
    · rw [if_pos e, if_neg (by omega), if_pos (by omega), e, Nat.zero_add]
    · rw [if_neg e, Nat.add_zero]
      by_cases q : c < n
      · rw [if_pos q, if_pos (by omega)]
      · rw [if_neg q, if_neg (by omega)]
theorem EW_full (mv : Nat → Nat → Nat) (D L : Nat) (bt : Nat → Bool) (k m c : Nat) : EW mv D L bt (k + 1) 0 m c = EW mv D L bt k 0 m c + (if m.testBit c = true ∧ bt c = true ∧ m ^^^ 2 ^ c = k then sumF (tmF mv D L bt m c) 13 else 0) := by
  unfold EW
  by_cases q : m.testBit c = true ∧ bt c = true
  · rw [if_pos q, if_pos q]
    by_cases q2 : m ^^^ 2 ^ c < k
    · rw [if_pos (show m ^^^ 2 ^ c < k + 1 by omega), if_pos q2, if_neg (by omega), Nat.add_zero]
    · rw [if_neg q2]
      by_cases q3 : m ^^^ 2 ^ c = k
      · rw [if_pos (show m ^^^ 2 ^ c < k + 1 by omega), if_pos q3, if_pos ⟨q.1, q.2, q3⟩]
        rfl
      · rw [if_neg (show ¬ m ^^^ 2 ^ c < k + 1 by omega), if_neg q3, if_neg (show ¬ (m.testBit c = true ∧ bt c = true ∧ m ^^^ 2 ^ c = k) from fun z => q3 z.2.2), Nat.add_zero]
        split <;> rfl
  · rw [if_neg q, if_neg q, if_neg (fun z => q ⟨z.1, z.2.1⟩), Nat.add_zero]
def CE (s : ST) (y : DY) (a b k m r : Nat) : Nat := PEq s r (EW (mvG s y a b) (yD y) (yL y) tt1 k 0 m)
theorem CE_same {s : ST} {y : DY} {a b k m r : Nat} (h : ∀ c, ¬ (m.testBit c = true ∧ m ^^^ 2 ^ c = k)) : CE s y a b (k + 1) m r = CE s y a b k m r := sumF_congr (fun l _ => by
  rw [EW_full, if_neg (show ¬ (m.testBit l = true ∧ tt1 l = true ∧ m ^^^ 2 ^ l = k) from fun z => h l ⟨z.1, z.2.2⟩), Nat.add_zero])
theorem CE_next {s : ST} {y : DY} {a b k c r : Nat} (hc : c < 13) (hk : k.testBit c = false) : CE s y a b (k + 1) (k ||| 2 ^ c) r = CE s y a b k (k ||| 2 ^ c) r + (if rnk s c = r then sumF (tmF (mvG s y a b) (yD y) (yL y) tt1 (k ||| 2 ^ c) c) 13 else 0) := by
  unfold CE PEq
  have e : (if rnk s c = r then sumF (tmF (mvG s y a b) (yD y) (yL y) tt1 (k ||| 2 ^ c) c) 13 else 0) = sumF (fun l => if l = c then (if rnk s l = r then sumF (tmF (mvG s y a b) (yD y) (yL y) tt1 (k ||| 2 ^ c) l) 13 else 0) else 0) 13 := by
    rw [sumF_one (fun l => if rnk s l = r then sumF (tmF (mvG s y a b) (yD y) (yL y) tt1 (k ||| 2 ^ c) l) 13 else 0), if_pos hc]
  rw [e, ← sumF_add]
  refine sumF_congr (fun l _ => ?_)
  by_cases q : rnk s l = r
  · rw [if_pos q, if_pos q, if_pos q, EW_full]
    congr 1
    by_cases z : l = c
    · rw [if_pos z, z, if_pos ⟨or_self_bit k c, rfl, or_xor hk⟩]
    · rw [if_neg z, if_neg (fun w => z ?_)]
      have b := or_self_bit k c
      have x := xor_or w.1
      rw [w.2.2] at x
      have : (k ||| 2 ^ l).testBit c = true := by rw [x]; exact b
      rw [Nat.testBit_or, hk, two_bit] at this
      simpa using this
  · rw [if_neg q, if_neg q, if_neg q]
    split <;> rfl
theorem CE_done {s : ST} {y : DY} {a b k m r : Nat} (h : m ≤ k) : CE s y a b k m r = PEq s r (Wy s y a b tt1 m) := sumF_congr (fun l _ => by rw [EW_done h])
def VCt (s : ST) (y : DY) (a b va k : Nat) (h : AH) : Prop := ∀ m r, m < 2 ^ sN s → r < wdt s → ivA h va (m * wdt s + r) = kI (CE s y a b k m r : Nat)
def E0 (s : ST) (y : DY) (a b m : Nat) : Nat := sumF (fun l => if (mvG s y a b m l == 0) = true then Wy s y a b tt1 m l else 0) 13
abbrev FTy (va : Nat) (h h' : AH) : Prop := Fr (fun x _ => x = va) (fun x _ => x = 57 ∨ x = 64) h h'
theorem Pa_tallyAt_g {T : Nat → Nat} {s : ST} {p : Nat} {y : DY} {a b ar mo va : Nat} {h : AH} (P : PHd T s p y a b ar mo va h) (A : ArrOk s y a b ar h) (M : MovOk s y a b mo (2 ^ sN s) h) {k : Nat} (hk : k < 2 ^ sN s) (sb : subB (yD y) k) (V : VCt s y a b va k h) {S0 : Nat} (j19 : jvA h 57 19 = kJ S0) {T0 : Nat → Nat} (tt : ∀ n, n < 13 → jvA h 64 n = kJ (T0 n : Nat)) : GV 3 m_Pa_tallyAt [.ref 57, .int (kI k)] h (fun h' => FTy va h h' ∧ VCt s y a b va (k + 1) h' ∧ jvA h' 57 19 = kJ ((S0 + E0 s y a b k : Nat) : Int) ∧ ∀ n, n < 13 → jvA h' 64 n = kJ ((T0 n + (if pop k - pop (yD y) = n then TT s y a b k else 0) : Nat) : Int)) := by
  have F := P.F
  have w := P.S.wf
  have pn := P.n
  have n2 := w.n12
  have wd := wdt_b w
  have pk := pop_le k
  have k12 : k < 4096 := by omega
  obtain ⟨arr, A⟩ := A
  have Ak := A k hk
  have lar : k < lnA h ar := by have := P.xa.2.2.2.2.1; omega
  have v57 := P.xv.out (i := 57) (by omega) (by omega)
  have eb : kI (k : Int) * kI (wdt s : Int) = kI ((k * wdt s : Nat) : Int) := by rw [kI_mul]; rfl
  have tt12 := TT_12 w P.wy (a := a) (b := b) (m := k)
  have supp : ∀ l, 0 < Wy s y a b tt1 k l → l = 12 ∨ l < sN s := fun l hl => (Wy_l w P.wy hl).1
  have own : ∀ r, r < wdt s → ∀ c, c < sN s → k.testBit c = false → k * wdt s + r ≠ ixS s k c := fun r hr c c1 c2 z => by
    have rc := rnk_lt (s := s) (l := c) (Or.inr c1)
    have := (idx_inj hr rc z).1
    have := bit_lt c2
    omega
  refine GVo (s_Pa_tallyAt_0 ?_)
  rw [kd_57 F, P.i6, eb]
  refine ⟨rfl, ?_⟩
  suffices H : ∀ r, r ≤ wdt s → ∀ (h2 : AH) (op tog : Nat) (dn : Nat → Nat) (sd : Nat), FTy va h h2 → op < 4096 → (∀ c, op.testBit c = true → c < sN s ∧ k.testBit c = false) → tog ≤ PSm s r (Wy s y a b tt1 k) → (∀ c, c < sN s → k.testBit c = false → ivA h2 va (ixS s k c) = kI ((CE s y a b k (k ||| 2 ^ c) (rnk s c) : Int) + (dn c : Nat))) → (∀ i, (∀ c, c < sN s → k.testBit c = false → i ≠ ixS s k c) → ivA h2 va i = ivA h va i) → (∀ c, dn c + (if op.testBit c = true then tog else 0) = PSm s r (fun l => if (mvG s y a b k l).testBit c = true then Wy s y a b tt1 k l else 0)) → jvA h2 57 19 = kJ ((S0 : Int) + (sd : Nat)) → sd + (if op = 0 then tog else 0) = PSm s r (fun l => if (mvG s y a b k l == 0) = true then Wy s y a b tt1 k l else 0) → (∀ n, n < 13 → jvA h2 64 n = kJ ((T0 n + (if pop k - pop (yD y) = n then PSm s r (Wy s y a b tt1 k) else 0) : Nat) : Int)) → Safe 2 m_Pa_tallyAt (15, [.ref 57, .int (kI k), .int (kI ((k * wdt s : Nat) : Int)), .int (kI op), .int (kI tog), .int (kI r)], [], h2) (fun v h' => Eqv v none ∧ FTy va h h' ∧ VCt s y a b va (k + 1) h' ∧ jvA h' 57 19 = kJ ((S0 + E0 s y a b k : Nat) : Int) ∧ ∀ n, n < 13 → jvA h' 64 n = kJ ((T0 n + (if pop k - pop (yD y) = n then TT s y a b k else 0) : Nat) : Int)) by
    refine H 0 (by omega) h 0 0 (fun _ => 0) 0 (Fr_rfl _ _ _) (by omega) (fun c hc => by rw [Nat.zero_testBit] at hc; cases hc) (Nat.zero_le _) (fun c c1 c2 => ?_) (fun i _ => rfl) (fun c => ?_) (by rw [j19]; rfl) ?_ (fun n hn => ?_)
    · have rc := rnk_lt (s := s) (l := c) (Or.inr c1)
      have := V (k ||| 2 ^ c) (rnk s c) (or_lt2 hk c1) rc
      unfold ixS
      rw [this]
      congr 1
    · rw [PSm_0, Nat.zero_testBit]; rfl
    · rw [PSm_0]; rfl
    · rw [tt n hn, PSm_0]
      congr 2
      split <;> rfl
  refine down_ind (wdt s) ?_ ?_
  · intro h2 op tog dn sd e2 hop ho htg A2 B2 D2 J2 Sd T2
    have P2 := P.po e2
    have tl : tog ≤ TT s y a b k := by rw [PSm_w supp] at htg; exact htg
    refine s_Pa_tallyAt_15 ?_
    rw [kd_57 P2.F, P2.i6, if_pos (by rw [decide_eq_true_eq, kI_le (by omega) (by omega) (by omega) (by omega)]; omega)]
    refine ⟨rfl, rfl, ?_⟩
    refine GV.use (Pa_passOn_g P2 hk ho hop (by omega) J2 A2) (by omega) (fun h3 e3 => ?_)
    obtain ⟨e3, o3, J3, A3, B3⟩ := e3
    refine ⟨rfl, e2.trans (e3.mono (fun _ _ z => z) (fun _ _ z => Or.inl z)), fun m r hm hr => ?_, ?_, fun n hn => ?_⟩
    · by_cases ex : ∃ c, c < sN s ∧ k.testBit c = false ∧ m = k ||| 2 ^ c
      · obtain ⟨c, c1, c2, rfl⟩ := ex
        have rc := rnk_lt (s := s) (l := c) (Or.inr c1)
        rw [CE_next (by omega) c2]
        by_cases q : rnk s c = r
        · rw [if_pos q, ← q]
          have := A3 c c1 c2
          unfold ixS at this
          rw [this]
          have d := D2 c
          rw [PSm_w (fun l hl => ?_)] at d
          · have e : sumF (tmF (mvG s y a b) (yD y) (yL y) tt1 (k ||| 2 ^ c) c) 13 = sumF (fun l => if (mvG s y a b k l).testBit c = true then Wy s y a b tt1 k l else 0) 13 := sumF_congr (fun l _ => by unfold tmF; rw [or_xor c2])
            rw [e, ← d]
            congr 1
            omega
          · split at hl
            · exact supp l hl
            · omega
        · rw [if_neg q, Nat.add_zero]
          have ni : ∀ c', c' < sN s → k.testBit c' = false → (k ||| 2 ^ c) * wdt s + r ≠ ixS s k c' := fun c' d1 d2 z => by
            have rc' := rnk_lt (s := s) (l := c') (Or.inr d1)
            have ii := idx_inj hr rc' z
            have b := or_self_bit k c
            rw [ii.1, Nat.testBit_or, c2, two_bit] at b
            simp at b
            rw [b] at ii
            exact q ii.2.symm
          rw [B3 _ ni, B2 _ ni]
          exact V _ _ hm hr
      · have ni : ∀ c', c' < sN s → k.testBit c' = false → m * wdt s + r ≠ ixS s k c' := fun c' d1 d2 z => by
          have rc' := rnk_lt (s := s) (l := c') (Or.inr d1)
          exact ex ⟨c', d1, d2, (idx_inj hr rc' z).1⟩
        rw [CE_same (fun c z => ?_), B3 _ ni, B2 _ ni]
        · exact V _ _ hm hr
        · have c12 : c < sN s := by
            by_cases z2 : c < sN s
            · exact z2
            · rw [bit_hi hm (by omega)] at z; cases z.1
          exact ex ⟨c, c12, by rw [← z.2]; exact xor_no z.1, by rw [← z.2, xor_or z.1]⟩
    · rw [J3]
      have e : E0 s y a b k = sd + (if op = 0 then tog else 0) := by
        rw [Sd, PSm_w (fun l hl => ?_)]
        · rfl
        · split at hl
          · exact supp l hl
          · omega
      rw [e]
      congr 1
      omega
    · have x64 : jvA h3 64 n = jvA h2 64 n := e3.2.2.2.2.2.2 64 n (by omega)
      rw [x64, T2 n hn, PSm_w supp]
      rfl
  · intro r hr ih h2 op tog dn sd e2 hop ho htg A2 B2 D2 J2 Sd T2
    have P2 := P.po e2
    have F2 := P2.F
    have a2 : ∀ m, ivA h2 ar m = ivA h ar m := fun m => e2.2.2.2.2.2.1 ar m P.ne.2.1
    have m2 : ∀ m, ivA h2 mo m = ivA h mo m := fun m => e2.2.2.2.2.2.1 mo m P.ne.2.2
    have pl := PSm_le (s := s) r (g := Wy s y a b tt1 k) (f := Wy s y a b tt1 k) (fun _ => Nat.le_refl _)
    have pl' : PSm s r (Wy s y a b tt1 k) ≤ TT s y a b k := pl
    refine s_Pa_tallyAt_15 ?_
    rw [kd_57 F2, P2.i6, if_neg (by rw [decide_eq_true_eq, kI_le (by omega) (by omega) (by omega) (by omega)]; omega), P2.r9, P2.xa.2.2.2.1, ix_kI (by omega), a2, Ak.1, kI_bit (by omega) (by omega)]
    refine ⟨rfl, rfl, rfl, inB_kI (by omega) (by have := P2.xa.2.2.2.2.1; omega), ?_⟩
    by_cases qb : (arr k).testBit r = true
    · obtain ⟨l0, g1, g2⟩ := (Ak.2.2 r).mp qb
      have ol := supp l0 g1
      have bd := idx_lt hk hr
      have lm := P2.xm.2.2.2.2.1
      have lv := P2.xv.2.2.2.2.1
      have em : ivA h2 mo (k * wdt s + r) = kI (mvG s y a b k l0) := by
        rw [m2, ← g2]; exact M k l0 hk g1
      have mvl := mvG_lt w y a b k l0
      have ei : kI ((k * wdt s : Nat) : Int) + kI (r : Int) = kI ((k * wdt s + r : Nat) : Int) := by rw [kI_add]; rfl
      have sm : ∀ l, rnk s l = r → 0 < Wy s y a b tt1 k l → mvG s y a b k l = mvG s y a b k l0 := fun l e hl => mvG_rnk2 w y a b k (supp l hl) ol (by rw [e, g2])
      have val : ivA h va (k * wdt s + r) = kI (PEq s r (Wy s y a b tt1 k) : Nat) := by
        rw [V k r hk hr, CE_done (Nat.le_refl k)]
      have pe := PEq_le (s := s) r (Wy s y a b tt1 k)
      have pe' : PEq s r (Wy s y a b tt1 k) ≤ TT s y a b k := pe
      -- from here on with a pending group that has the same moves
      have s72 : ∀ (h3 : AH) (tog' : Nat) (dn' : Nat → Nat) (sd' : Nat), FTy va h h3 → tog' ≤ PSm s r (Wy s y a b tt1 k) → (∀ c, c < sN s → k.testBit c = false → ivA h3 va (ixS s k c) = kI ((CE s y a b k (k ||| 2 ^ c) (rnk s c) : Int) + (dn' c : Nat))) → (∀ i, (∀ c, c < sN s → k.testBit c = false → i ≠ ixS s k c) → ivA h3 va i = ivA h va i) → (∀ c, dn' c + (if (mvG s y a b k l0).testBit c = true then tog' else 0) = PSm s r (fun l => if (mvG s y a b k l).testBit c = true then Wy s y a b tt1 k l else 0)) → jvA h3 57 19 = kJ ((S0 : Int) + (sd' : Nat)) → sd' + (if mvG s y a b k l0 = 0 then tog' else 0) = PSm s r (fun l => if (mvG s y a b k l == 0) = true then Wy s y a b tt1 k l else 0) → (∀ n, n < 13 → jvA h3 64 n = kJ ((T0 n + (if pop k - pop (yD y) = n then PSm s r (Wy s y a b tt1 k) else 0) : Nat) : Int)) → Safe 2 m_Pa_tallyAt (72, [.ref 57, .int (kI k), .int (kI ((k * wdt s : Nat) : Int)), .int (kI (mvG s y a b k l0 : Nat)), .int (kI tog'), .int (kI r)], [], h3) (fun v h' => Eqv v none ∧ FTy va h h' ∧ VCt s y a b va (k + 1) h' ∧ jvA h' 57 19 = kJ ((S0 + E0 s y a b k : Nat) : Int) ∧ ∀ n, n < 13 → jvA h' 64 n = kJ ((T0 n + (if pop k - pop (yD y) = n then TT s y a b k else 0) : Nat) : Int)) := by
        intro h3 tog' dn' sd' e3 ht' A3 B3 D3 J3 Sd3 T3
        have P3 := P.po e3
        have F3 := P3.F
        have lv3 := P3.xv.2.2.2.2.1
        have px := pop_xor sb
        refine s_Pa_tallyAt_72 ?_
        rw [kd_57 F3, P3.r11, P3.xv.2.2.2.1, ei, ix_kI (by omega), B3 _ (own r hr), val]
        refine ⟨rfl, rfl, inB_kI (by omega) (by omega), rfl, rfl, ?_⟩
        rw [Pa_strokesTo_c P3 (by omega) k12 sb, rv_57_18 F3, kd_64 F3, ln_64 F3, kd_57 F3, P3.r11, P3.xv.2.2.2.1, ix_kI (by omega), B3 _ (own r hr), val, T3 _ (by omega), kI_long (by omega) (by omega), kI_add, kI_add]
        refine ⟨rfl, inB_kI (by omega) (by omega), rfl, rfl, inB_kI (by omega) (by omega), rfl, inB_kI (by omega) (by omega), ?_⟩
        rw [kJ_add]
        have e4 : FTy va h3 (stJ h3 64 (pop k - pop (yD y)) (kJ (((T0 (pop k - pop (yD y)) + (if pop k - pop (yD y) = pop k - pop (yD y) then PSm s r (Wy s y a b tt1 k) else 0) : Nat) : Int) + (PEq s r (Wy s y a b tt1 k) : Nat)))) := (Fr_rfl (fun x _ => x = va) (fun x _ => x = 57 ∨ x = 64) h3).stJ (Or.inr rfl) _
        refine ih _ (mvG s y a b k l0) (tog' + PEq s r (Wy s y a b tt1 k)) dn' sd' (e3.trans e4) mvl (fun c hc => mvG_N w hc) ?_ (fun c c1 c2 => by rw [iv_stJ]; exact A3 c c1 c2) (fun i hi => by rw [iv_stJ]; exact B3 i hi) (fun c => ?_) (by rw [jv_stJ, if_neg (by omega)]; exact J3) ?_ (fun n hn => ?_)
        · rw [PSm_s]; omega
        · rw [PSm_s, ← D3 c, PEq_if (q := (mvG s y a b k l0).testBit c) (fun l e hl => by rw [sm l e hl])]
          split <;> omega
        · rw [PSm_s, ← Sd3, PEq_if (q := (mvG s y a b k l0 == 0)) (fun l e hl => by rw [sm l e hl])]
          by_cases z : mvG s y a b k l0 = 0
          · rw [if_pos z, if_pos z, if_pos (by simpa using z)]; omega
          · rw [if_neg z, if_neg z, if_neg (by simpa using z)]
        · rw [jv_stJ]
          by_cases z : n = pop k - pop (yD y)
          · rw [if_pos ⟨rfl, z⟩, if_pos rfl, if_pos z.symm, PSm_s, z]
            congr 1
            omega
          · rw [if_neg (fun q => z q.2), T3 n hn, if_neg (fun q => z q.symm), if_neg (fun q => z q.symm)]
      rw [if_neg (by rw [dec_b0]; exact fun z => z qb), P2.r10, P2.xm.2.2.2.1, ei, ix_kI (by omega), em]
      refine ⟨rfl, rfl, inB_kI (by omega) (by omega), ?_⟩
      by_cases qo : mvG s y a b k l0 = op
      · rw [if_pos (by rw [decide_eq_true_eq, qo])]
        rw [qo] at s72
        exact s72 h2 tog dn sd e2 htg A2 B2 D2 J2 Sd T2
      · rw [if_neg (by rw [decide_eq_true_eq, kI_inj (by omega) (by omega) (by omega) (by omega)]; omega)]
        refine ⟨rfl, ?_⟩
        refine GV.use (Pa_passOn_g P2 hk ho hop (by omega) J2 A2) (by omega) (fun h3 e3 => ?_)
        obtain ⟨e3, o3, J3, A3, B3⟩ := e3
        have e3' : FTy va h2 h3 := e3.mono (fun _ _ z => z) (fun _ _ z => Or.inl z)
        have P3 := P2.po e3
        have em3 : ivA h3 mo (k * wdt s + r) = kI (mvG s y a b k l0) := by
          rw [e3.2.2.2.2.2.1 mo _ P.ne.2.2]; exact em
        have lm3 := P3.xm.2.2.2.2.1
        rw [kd_57 P3.F, P3.r10, P3.xm.2.2.2.1, em3]
        refine ⟨rfl, rfl, inB_kI (by omega) (by omega), ?_⟩
        refine s72 h3 0 (fun c => dn c + (if op.testBit c = true then tog else 0)) (sd + (if op = 0 then tog else 0)) (e2.trans e3') (Nat.zero_le _) (fun c c1 c2 => ?_) (fun i hi => ?_) (fun c => ?_) ?_ ?_ (fun n hn => ?_)
        · rw [A3 c c1 c2]
          congr 1
          omega
        · rw [B3 i hi]; exact B2 i hi
        · rw [← D2 c]
          have z : (if (mvG s y a b k l0).testBit c = true then 0 else 0) = 0 := by split <;> rfl
          omega
        · rw [J3]
          congr 1
          omega
        · rw [← Sd]
          have z : (if mvG s y a b k l0 = 0 then 0 else 0) = 0 := by split <;> rfl
          omega
        · have x64 : jvA h3 64 n = jvA h2 64 n := e3.2.2.2.2.2.2 64 n (by omega)
          rw [x64]; exact T2 n hn
    · rw [if_pos (by rw [dec_b0]; exact qb), kI_add]
      have no : ∀ l, rnk s l = r → Wy s y a b tt1 k l = 0 := fun l e => by
        by_cases z : 0 < Wy s y a b tt1 k l
        · exact absurd ((Ak.2.2 r).mpr ⟨l, z, e⟩) qb
        · omega
      have z1 : PEq s r (Wy s y a b tt1 k) = 0 := PEq_0 no
      refine ih h2 op tog dn sd e2 hop ho (by rw [PSm_s]; omega) A2 B2 (fun c => ?_) J2 ?_ (fun n hn => ?_)
      · rw [PSm_s, PEq_0 (fun l e => by rw [no l e]; split <;> rfl), Nat.add_zero]; exact D2 c
      · rw [PSm_s, PEq_0 (fun l e => by rw [no l e]; split <;> rfl), Nat.add_zero]; exact Sd
      · rw [PSm_s, z1, Nat.add_zero]; exact T2 n hn
