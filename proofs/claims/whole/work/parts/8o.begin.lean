/-! the paths begin -/
def APt (T : Nat → Nat) (x : Nat) : Prop := T x = 1 ∨ (45 ≤ x ∧ x ≤ 64) ∨ (105 < x ∧ x < 1000000 ∧ T x = 2)
theorem PA.fn {T : Nat → Nat} {R : Nat → ST} {i : Nat} {A : Nat → Prop} {h h' : AH} (P : PA T R i h) (F : Fix h) (hi : i < 4) (e : FN A h h') (n0 : ∀ x, A x → T x ≠ 0) (n1 : ¬ A (45 + 3 * i)) (n2 : ¬ A (46 + 3 * i)) (n3 : ¬ A (47 + 3 * i)) : PA T R i h' := by
  obtain ⟨i0, lo, hb, b1, b2, i2, H⟩ := P
  have o1 := oldF F (a := 45 + 3 * i) (by omega)
  have o2 := oldF F (a := 46 + 3 * i) (by omega)
  have o3 := oldF F (a := 47 + 3 * i) (by omega)
  have r := e.rv _ o1 n1 1
  refine ⟨by rw [e.iv _ o1 n1]; exact i0, by rw [r]; exact lo, hb, b1, b2, by rw [e.iv _ o1 n1]; exact i2, fun z => ?_⟩
  obtain ⟨ask, hol, P⟩ := H z
  rw [r]
  exact ⟨ask, hol, P.S.fn e n0, by rw [e.iv _ o1 n1]; exact P.i0, by rw [e.iv _ o1 n1]; exact P.i2, by rw [r], fun k hk => by rw [e.jv _ o2 n2]; exact P.ja k hk, fun k hk => by rw [e.jv _ o3 n3]; exact P.jh k hk, P.v⟩
theorem Perm.fn {T : Nat → Nat} {s : ST} {p i hb : Nat} {A : Nat → Prop} {h h' : AH} (P : Perm T s p i hb h) (F : Fix h) (hi : i < 4) (e : FN A h h') (n0 : ∀ x, A x → T x ≠ 0) (n1 : ¬ A (45 + 3 * i)) (n2 : ¬ A (46 + 3 * i)) (n3 : ¬ A (47 + 3 * i)) : Perm T s p i hb h' := by
  have o1 := oldF F (a := 45 + 3 * i) (by omega)
  have o2 := oldF F (a := 46 + 3 * i) (by omega)
  have o3 := oldF F (a := 47 + 3 * i) (by omega)
  obtain ⟨ask, hol, P⟩ := P
  exact ⟨ask, hol, P.S.fn e n0, by rw [e.iv _ o1 n1]; exact P.i0, by rw [e.iv _ o1 n1]; exact P.i2, by rw [e.rv _ o1 n1]; exact P.r, fun k hk => by rw [e.jv _ o2 n2]; exact P.ja k hk, fun k hk => by rw [e.jv _ o3 n3]; exact P.jh k hk, P.v⟩
theorem Perm.pa {T : Nat → Nat} {R : Nat → ST} {s : ST} {p i hb : Nat} {h : AH} (P : Perm T s p i hb h) (hp : p < 1000000) (rp : R p = s) (h9 : hb ≤ 9) : PA T R i h := by
  obtain ⟨ask, hol, P⟩ := P
  refine ⟨P.i0, by rw [P.r]; exact hp, (hb : Int), by omega, by omega, P.i2, fun _ => ⟨ask, hol, ?_⟩⟩
  rw [P.r, rp, Int.toNat_natCast]
  exact P
theorem PAs.of {T : Nat → Nat} {h h' : AH} (X : PAs T h) (r : ∀ k, 9 ≤ k → k ≤ 11 → rvA h' 57 k = rvA h 57 k) (kl : ∀ x, old h x → kdA h' x = kdA h x ∧ lnA h' x = lnA h x) (z : szA h ≤ szA h') : PAs T h' := by
  have f : ∀ x kd, PArr T x kd 0 h → PArr T x kd 0 h' := fun x kd P => by
    have := kl x (Or.inl P.2.2.1)
    unfold PArr at *
    rw [this.1, this.2]
    omega
  refine ⟨by rw [r 9 (by omega) (by omega)]; exact f _ _ X.a, by rw [r 10 (by omega) (by omega)]; exact f _ _ X.m, by rw [r 11 (by omega) (by omega)]; exact f _ _ X.v, by rw [r 9 (by omega) (by omega), r 10 (by omega) (by omega), r 11 (by omega) (by omega)]; exact X.ne, ?_⟩
  rw [r 10 (by omega) (by omega), r 11 (by omega) (by omega), (kl _ (Or.inl X.v.2.2.1)).2, (kl _ (Or.inl X.m.2.2.1)).2]
  exact X.l
theorem PhP_of {T : Nat → Nat} {h h' : AH} (X : PAs T h) (r : ∀ k, 9 ≤ k → k ≤ 11 → rvA h' 57 k = rvA h 57 k) (kl : ∀ x, old h x → kdA h' x = kdA h x ∧ lnA h' x = lnA h x) : PhP h' = PhP h := by
  unfold PhP
  rw [r 9 (by omega) (by omega), r 10 (by omega) (by omega), (kl _ (Or.inl X.a.2.2.1)).2, (kl _ (Or.inl X.m.2.2.1)).2]
theorem Pa_rankOf_r {s : ST} {d : Nat} {h : AH} (F : Fix h) (w : WFS s) (i6 : ivA h 57 6 = kI (wdt s)) (hd : 1 ≤ d) {c : Nat} (hc : c < 12) {K : Int32 → AH → Prop} : CallI d m_Pa_rankOf [.ref 57, .int (kI c)] h K ↔ K (kI (rnk s c : Nat)) h := by
  have wd := wdt_b w
  refine Ret.I (d := 1) (ret_of (s_Pa_rankOf_0 ?_)) hd
  refine ⟨by rw [kd_57 F]; rfl, ?_⟩
  rw [i6, rnk_c hc]
  by_cases q : wideB s = true
  · have : ¬ wdt s = 1 := fun z => (wdt_1 w).mp z q
    rw [if_pos (by rw [Bool.not_eq_true', decide_eq_false_iff_not, kI_inj (by omega) (by omega) (by omega) (by omega)]; omega), if_pos q]
    exact ⟨rfl, rfl⟩
  · have : wdt s = 1 := (wdt_1 w).mpr q
    rw [if_neg (by rw [this]; decide), if_neg q]
    exact ⟨rfl, rfl⟩
def ArrOk (s : ST) (y : DY) (a b ar : Nat) (h : AH) : Prop := ∃ arr : Nat → Nat, ∀ m, m < 2 ^ sN s → ivA h ar m = kI (arr m) ∧ arr m < 8192 ∧ Rk s (fun l => 0 < Wy s y a b tt1 m l) (arr m)
/-- the graph as it stands -/
def PGr (T : Nat → Nat) (s : ST) (p : Nat) (y : DY) (a : Nat) (b : Nat) (h : AH) : Prop := (PHd T s p y a b (rvA h 57 9) (rvA h 57 10) (rvA h 57 11) h) ∧ (ArrOk s y a b (rvA h 57 9) h) ∧ (MovOk s y a b (rvA h 57 10) (2 ^ sN s) h) ∧ (∀ c, c < sN s → ivA h 62 c = kI (odF s y c))
theorem PGr.H {T : Nat → Nat} {s : ST} {p : Nat} {y : DY} {a : Nat} {b : Nat} {h : AH} (C : PGr T s p y a b h) : PHd T s p y a b (rvA h 57 9) (rvA h 57 10) (rvA h 57 11) h := C.1
theorem PGr.A {T : Nat → Nat} {s : ST} {p : Nat} {y : DY} {a : Nat} {b : Nat} {h : AH} (C : PGr T s p y a b h) : ArrOk s y a b (rvA h 57 9) h := C.2.1
theorem PGr.M {T : Nat → Nat} {s : ST} {p : Nat} {y : DY} {a : Nat} {b : Nat} {h : AH} (C : PGr T s p y a b h) : MovOk s y a b (rvA h 57 10) (2 ^ sN s) h := C.2.2.1
theorem PGr.O {T : Nat → Nat} {s : ST} {p : Nat} {y : DY} {a : Nat} {b : Nat} {h : AH} (C : PGr T s p y a b h) : ∀ c, c < sN s → ivA h 62 c = kI (odF s y c) := C.2.2.2
/-- from the loop over masks on -/
theorem Pa_begin_282 {T : Nat → Nat} {s : ST} {p : Nat} {y : DY} {a b ar mo va : Nat} {h : AH} (P : PHd T s p y a b ar mo va h) (O : ∀ c, c < sN s → ivA h 62 c = kI (odF s y c)) {Q : Option Value → AH → Prop} (H : ∀ h', FSp T a b ar mo h h' → Perm T s p a (yB y a) h' → Perm T s p b (yB y b) h' → PGr T s p y a b h' → Q none h') : ∀ n k, 10000 - k ≤ n → subB (yD y) k → k ≤ 8191 → ∀ (h2 : AH) (arr : Nat → Nat), FSp T a b ar mo h h2 → Perm T s p a (yB y a) h2 → Perm T s p b (yB y b) h2 → (∀ m, m < 2 ^ sN s → ivA h2 ar m = kI (arr m) ∧ arr m < 8192 ∧ Rk s (RE s y a b k m) (arr m)) → MovOk s y a b mo k h2 → Safe 8 m_Pa_begin (282, [.ref 57, unV, unV, unV, unV, .int (kI k)], [], h2) Q := by
  have w := P.S.wf
  have pn := P.n
  have hD := P.wy.m12 w
  intro n
  induction n with
  | zero => intro k hn _ hk; omega
  | succ n ih =>
    intro k hn sb hk h2 arr e2 pa2 pb2 A2 M2
    have P2 := P.sp e2
    have F2 := P2.F
    refine s_Pa_begin_282 ?_
    rw [kd_57 F2, P2.r1, P2.S.k, P2.S.i3]
    refine ⟨rfl, rfl, ?_⟩
    by_cases q : 2 ^ sN s ≤ k
    · rw [if_pos (by rw [decide_eq_true_eq, kI_lt (by omega) (by omega) (by omega) (by omega)]; omega)]
      refine H h2 e2 pa2 pb2 ⟨?_, ?_, ?_, ?_⟩
      · rw [P2.r9, P2.r10, P2.r11]; exact P2
      · rw [P2.r9]
        exact ⟨arr, fun m hm => ⟨(A2 m hm).1, (A2 m hm).2.1, (A2 m hm).2.2.congr (fun l => RE_done (by omega))⟩⟩
      · rw [P2.r10]
        exact fun m l hm hl => M2 m l (by omega) hl
      · intro c hc
        have t62 := T57 P.t (i := 62) (by omega) (by omega)
        rw [e2.2.2.2.2.2.1 62 _ (fun z => by
          have a1 := P.xa.out (i := 62) (by omega) (by omega)
          have a2 := P.xm.out (i := 62) (by omega) (by omega)
          rcases z with z | z | z
          · omega
          · exact a1 z.symm
          · exact a2 z.symm)]
        exact O c hc
    · have hk2 : k < 2 ^ sN s := by omega
      have Ak := A2 k hk2
      have lar : k < lnA h2 ar := by have := P2.xa.2.2.2.2.1; omega
      rw [if_neg (by rw [decide_eq_true_eq, kI_lt (by omega) (by omega) (by omega) (by omega)]; omega), P2.r9, P2.xa.2.2.2.1, ix_kI (by omega), Ak.1]
      refine ⟨rfl, rfl, inB_kI (by omega) lar, ?_⟩
      have next : ∀ h3 (arr' : Nat → Nat), FSp T a b ar mo h h3 → Perm T s p a (yB y a) h3 → Perm T s p b (yB y b) h3 → (∀ m, m < 2 ^ sN s → ivA h3 ar m = kI (arr' m) ∧ arr' m < 8192 ∧ Rk s (RE s y a b (k + 1) m) (arr' m)) → MovOk s y a b mo (k + 1) h3 → Safe 8 m_Pa_begin (310, [.ref 57, unV, unV, unV, unV, .int (kI k)], [], h3) Q := by
        intro h3 arr' e3 pa3 pb3 A3 M3
        have P3 := P.sp e3
        refine s_Pa_begin_310 ?_
        have lt := Nat.or_lt_two_pow (n := 13) (show k + 1 < 2 ^ 13 by omega) (show yD y < 2 ^ 13 by omega)
        have ge : k + 1 ≤ (k + 1) ||| yD y := Nat.left_le_or
        have eo : kI (k : Int) + kI 1 = kI ((k + 1 : Nat) : Int) := by rw [kI_add]; rfl
        rw [kd_57 P3.F, P3.i5, eo, kI_or]
        refine ⟨rfl, ?_⟩
        refine ih ((k + 1) ||| yD y) (by omega) (fun j hj => by rw [Nat.testBit_or, hj, Bool.or_true]) (by have : (2 : Nat) ^ 13 = 8192 := rfl; omega) h3 arr' e3 pa3 pb3 (fun m hm => ⟨(A3 m hm).1, (A3 m hm).2.1, (A3 m hm).2.2.congr (fun l => (RE_next sb).symm)⟩) (fun m l hm hl => ?_)
        by_cases z : m < k + 1
        · exact M3 m l z hl
        · exact absurd (CW_sub _ _ hl) (sup_gap sb m (by omega) hm)
      by_cases qz : arr k = 0
      · rw [if_pos (by rw [qz]; decide)]
        have no : ∀ l, ¬ 0 < Wy s y a b tt1 k l := (Ak.2.2.congr (fun l => RE_done (Nat.le_refl k))).zero.mp qz
        refine next h2 arr e2 pa2 pb2 (fun m hm => ⟨(A2 m hm).1, (A2 m hm).2.1, (A2 m hm).2.2.congr (fun l => ?_)⟩) (fun m l hm hl => ?_)
        · rw [RE_step]
          constructor
          · exact Or.inl
          · rintro (z | ⟨_, _, l', _, _, z⟩)
            · exact z
            · exact absurd z (no l')
        · by_cases z : m = k
          · rw [z] at hl; exact absurd hl (no l)
          · exact M2 m l (by omega) hl
      · rw [if_neg (by rw [decide_eq_true_eq, z0, kI_inj (by omega) (by omega) (by omega) (by omega)]; omega)]
        refine ⟨rfl, ?_⟩
        refine GV.use (Pa_spread_g P2 pa2 pb2 hk2 sb A2 M2) (by omega) (fun h3 e3 => ?_)
        obtain ⟨e3, pa3, pb3, ⟨arr', A3⟩, M3⟩ := e3
        exact next h3 arr' (e2.trans e3) pa3 pb3 A3 M3
set_option maxHeartbeats 1000000 in
/-- anew -/
theorem Pa_begin_29 {T : Nat → Nat} {R : Nat → ST} {s : ST} {p : Nat} {y : DY} {v : Int} {h : AH} (F : Fix h) (t : TF T) (S : XS T s p h) (wy : WFY s y) (Pg : XP y v 8 h) (rp : R p = s) (hp : p < 1000000) (Pm : ∀ i, i < 4 → PA T R i h) (X : PAs T h) (td : TD T h) (hz : szA h < 900000) {a b : Nat} (ha : a < sH s) (hb : b < sH s) : Safe 8 m_Pa_begin (29, [.ref 57, .ref p, .ref 8, .int (kI a), .int (kI b), unV], [], h) (fun x h' => Eqv x none ∧ FN (APt T) h h' ∧ Fix h' ∧ Rm h h' ∧ PAs T h' ∧ (∀ i, i < 4 → PA T R i h') ∧ ivA h' 57 2 = kI v ∧ PGr T s p y a b h' ∧ ivA h' 57 12 = kI (-1) ∧ jvA h' 57 19 = kJ (-1)) := by
  have w := S.wf
  have n1 := w.n1
  have n2 := w.n12
  have n4 := w.2.2.2.2.2.1
  have wd := wdt_b w
  have hD := wy.m12 w
  have hL := wy.l12 w
  have rkL := rnk_lt wy.2.1
  have p12 : 2 ^ sN s ≤ 2 ^ 12 := Nat.pow_le_pow_right (by omega) n2
  have p12' : (2 : Nat) ^ 12 = 4096 := rfl
  have p1 : 1 ≤ 2 ^ sN s := Nat.one_le_two_pow
  have s105 := F.2.2.2
  have ybA := wy.2.2.2.2
  -- behind the first stores
  have main : ∀ hB, FN (fun x => x = 57) h hB → Fix hB → szA hB = szA h → usA hB = usA h → (∀ x, kdA hB x = kdA h x ∧ lnA hB x = lnA h x) → rvA hB 57 1 = p → (∀ k, k ≠ 1 → rvA hB 57 k = rvA h 57 k) → ivA hB 57 2 = kI v → ivA hB 57 3 = kI a → ivA hB 57 4 = kI b → ivA hB 57 5 = kI (yD y) → ivA hB 57 6 = kI (wdt s) → ivA hB 57 7 = kI (rnk s (yL y)) → ivA hB 57 12 = kI (-1) → jvA hB 57 19 = kJ (-1) → Safe 8 m_Pa_begin (141, [.ref 57, unV, .ref 8, .int (kI a), .int (kI b), .int (kI 0)], [], hB) (fun x h' => Eqv x none ∧ FN (APt T) h h' ∧ Fix h' ∧ Rm h h' ∧ PAs T h' ∧ (∀ i, i < 4 → PA T R i h') ∧ ivA h' 57 2 = kI v ∧ PGr T s p y a b h' ∧ ivA h' 57 12 = kI (-1) ∧ jvA h' 57 19 = kJ (-1)) := by
    intro hB eB FB szB usB klB r1 rB i2 i3 i4 i5 i6 i7 i12 j19
    have SB : XS T s p hB := S.fn eB (fun x z => by rw [z, T57 t (i := 57) (by omega) (by omega)]; omega)
    have PgB : XP y v 8 hB := Pg.fn F eB (by omega) (by omega) (by omega)
    have PmB : ∀ i, i < 4 → PA T R i hB := fun i hi => (Pm i hi).fn F hi eB (fun x z => by rw [z, T57 t (i := 57) (by omega) (by omega)]; omega) (by omega) (by omega) (by omega)
    have XB : PAs T hB := X.of (fun k k1 k2 => rB k (by omega)) (fun x _ => klB x) (by omega)
    have RmB : Rm h hB := ⟨by rw [usB, PhP_of X (fun k k1 k2 => rB k (by omega)) (fun x _ => klB x)]; exact Nat.le_refl _, by omega⟩
    suffices H : ∀ k, k ≤ sN s → ∀ h2, Fr (fun x _ => T x = 1 ∨ x = 62) JM hB h2 → (∀ c, c < k → ivA h2 62 c = kI (odF s y c)) → Safe 8 m_Pa_begin (141, [.ref 57, unV, .ref 8, .int (kI a), .int (kI b), .int (kI k)], [], h2) (fun x h' => Eqv x none ∧ FN (APt T) h h' ∧ Fix h' ∧ Rm h h' ∧ PAs T h' ∧ (∀ i, i < 4 → PA T R i h') ∧ ivA h' 57 2 = kI v ∧ PGr T s p y a b h' ∧ ivA h' 57 12 = kI (-1) ∧ jvA h' 57 19 = kJ (-1)) by
      exact H 0 (by omega) hB (Fr_rfl _ _ _) (fun c hc => by omega)
    have t62 := T57 t (i := 62) (by omega) (by omega)
    have t57 := T57 t (i := 57) (by omega) (by omega)
    have nz : ∀ x (k : Nat), (T x = 1 ∨ x = 62) → T x ≠ 0 := fun x _ z => by
      rcases z with z | z
      · omega
      · rw [z, t62]; omega
    refine down_ind (sN s) ?_ ?_
    · intro h2 e2 O2
      have S2 := SB.fr e2 (fun x k z => nz x k z)
      have F2 := e2.fix FB
      have rv2 : ∀ x k, rvA h2 x k = rvA hB x k := fun x k => by rw [e2.2.2.1]
      have iv57 : ∀ k, ivA h2 57 k = ivA hB 57 k := fun k => e2.2.2.2.2.2.1 57 k (by omega)
      have jv57 : ∀ k, jvA h2 57 k = jvA hB 57 k := fun k => e2.2.2.2.2.2.2 57 k (fun z => z)
      have t8 := T57 t (i := 8) (by omega) (by omega)
      have t9 := T57 t (i := 9) (by omega) (by omega)
      have Pg2 : XP y v 8 h2 := PgB.fr e2 (fun k => ⟨by show ¬ (T 8 = 1 ∨ 8 = 62); omega, by show ¬ (T 9 = 1 ∨ 9 = 62); omega⟩)
      have e2n : FN (fun x => T x = 1 ∨ x = 62) hB h2 := e2.fn (fun x _ z => z) (fun _ _ z => z.elim)
      have Pm2 : ∀ i, i < 4 → PA T R i h2 := fun i hi => (PmB i hi).fn FB hi e2n (fun x z => nz x 0 z) (by have := T57 t (i := 45 + 3 * i) (by omega) (by omega); omega) (by have := T57 t (i := 46 + 3 * i) (by omega) (by omega); omega) (by have := T57 t (i := 47 + 3 * i) (by omega) (by omega); omega)
      have kl2 : ∀ x, kdA h2 x = kdA hB x ∧ lnA h2 x = lnA hB x := fun x => ⟨by rw [e2.1], by rw [e2.2.1]⟩
      have X2 : PAs T h2 := XB.of (fun k _ _ => rv2 57 k) (fun x _ => kl2 x) (by rw [e2.2.2.2.1]; omega)
      have sz2 : szA h2 = szA h := by rw [e2.2.2.2.1, szB]
      have us2 : usA h2 = usA h := by rw [e2.2.2.2.2.1, usB]
      have pfA := pe_fix F2 (show a < 4 by omega)
      refine s_Pa_begin_141 ?_
      rw [kd_57 F2, rv2 57 1, r1, S2.k, S2.i2, if_pos (by rw [decide_eq_true_eq, kI_le (by omega) (by omega) (by omega) (by omega)]; omega), rv_57_0 F2, kd_44 F2, ln_44 F2, kd_8 F2, ix_kI (by omega), pfA.1]
      refine ⟨rfl, rfl, rfl, rfl, rfl, inB_kI (by omega) (by omega), rfl, rfl, ?_⟩
      rw [Pg_habitOf_c F2 PG8 Pg2 (by omega) (by omega), pfA.2.1]
      refine ⟨rfl, ?_⟩
      refine GV.use (Pe_serve_g t F2 (show a < 4 by omega) (ybA a) (Pm2 a (by omega)) hp rp S2) (by omega) (fun h3 e3 => ?_)
      obtain ⟨e3, F3, sz3, us3, ask3, hol3, PS3⟩ := e3
      have pA3 : Perm T s p a (yB y a) h3 := ⟨ask3, hol3, PS3⟩
      have S3 := PS3.S
      have old2 : ∀ x, x ≤ 105 → old h2 x := fun x hx => oldF F2 hx
      have iv3 : ∀ k, ivA h3 57 k = ivA h2 57 k := fun k => e3.iv 57 (old2 57 (by omega)) (by unfold APe; omega) k
      have jv3 : ∀ k, jvA h3 57 k = jvA h2 57 k := fun k => e3.jv 57 (old2 57 (by omega)) (by unfold APe; omega) k
      have rv3 : ∀ k, rvA h3 57 k = rvA h2 57 k := fun k => e3.rv 57 (old2 57 (by omega)) (by unfold APe; omega) k
      have nAPe : ∀ i, i < 4 → ∀ x, APe i x → T x ≠ 0 := fun i hi x z => by
        have := T57 t (i := x) (by unfold APe at z; omega) (by unfold APe at z; omega)
        omega
      have Pg3 : XP y v 8 h3 := Pg2.fn F2 e3 (by omega) (by unfold APe; omega) (by unfold APe; omega)
      have Pm3 : ∀ i, i < 4 → PA T R i h3 := fun i hi => by
        by_cases z : i = a
        · rw [z]; exact pA3.pa hp rp (ybA a)
        · exact (Pm2 i hi).fn F2 hi e3 (nAPe a (by omega)) (by unfold APe; omega) (by unfold APe; omega) (by unfold APe; omega)
      have pfB := pe_fix F3 (show b < 4 by omega)
      have r31 : rvA h3 57 1 = p := by rw [rv3, rv2, r1]
      rw [kd_57 F3, rv_57_0 F3, kd_44 F3, ln_44 F3, kd_8 F3, ix_kI (by omega), pfB.1, r31]
      refine ⟨rfl, rfl, rfl, inB_kI (by omega) (by omega), rfl, rfl, ?_⟩
      rw [Pg_habitOf_c F3 PG8 Pg3 (by omega) (by omega), pfB.2.1]
      refine ⟨rfl, ?_⟩
      refine GV.use (Pe_serve_g t F3 (show b < 4 by omega) (ybA b) (Pm3 b (by omega)) hp rp S3) (by omega) (fun h4 e4 => ?_)
      obtain ⟨e4, F4, sz4, us4, ask4, hol4, PS4⟩ := e4
      have pB4 : Perm T s p b (yB y b) h4 := ⟨ask4, hol4, PS4⟩
      have pA4 : Perm T s p a (yB y a) h4 := by
        by_cases z : a = b
        · rw [z]; exact pB4
        · exact pA3.fn F3 (by omega) e4 (nAPe b (by omega)) (by unfold APe; omega) (by unfold APe; omega) (by unfold APe; omega)
      have S4 := PS4.S
      have old3 : ∀ x, x ≤ 105 → old h3 x := fun x hx => oldF F3 hx
      have iv4 : ∀ k, ivA h4 57 k = ivA h3 57 k := fun k => e4.iv 57 (old3 57 (by omega)) (by unfold APe; omega) k
      have jv4 : ∀ k, jvA h4 57 k = jvA h3 57 k := fun k => e4.jv 57 (old3 57 (by omega)) (by unfold APe; omega) k
      have rv4 : ∀ k, rvA h4 57 k = rvA h3 57 k := fun k => e4.rv 57 (old3 57 (by omega)) (by unfold APe; omega) k
      have Pm4 : ∀ i, i < 4 → PA T R i h4 := fun i hi => by
        by_cases z : i = b
        · rw [z]; exact pB4.pa hp rp (ybA b)
        · exact (Pm3 i hi).fn F3 hi e4 (nAPe b (by omega)) (by unfold APe; omega) (by unfold APe; omega) (by unfold APe; omega)
      have e24 : FN (fun x => APe a x ∨ APe b x) h2 h4 := (e3.mono (fun x z => Or.inl z)).trans (e4.mono (fun x z => Or.inr z))
      have X4 : PAs T h4 := X2.of (fun k _ _ => by rw [rv4, rv3]) (fun x o => e24.kl x o) (by omega)
      have Ph4 : PhP h4 = PhP h := by
        rw [PhP_of X2 (fun k _ _ => by rw [rv4, rv3]) (fun x o => e24.kl x o), PhP_of XB (fun k _ _ => rv2 57 k) (fun x _ => kl2 x), PhP_of X (fun k k1 k2 => rB k (by omega)) (fun x _ => klB x)]
      have O4 : ∀ c, c < sN s → ivA h4 62 c = kI (odF s y c) := fun c hc => by
        rw [e24.iv 62 (old2 62 (by omega)) (by unfold APe; omega)]
        exact O2 c hc
      refine ⟨by rw [kd_57 F4]; rfl, ?_⟩
      refine GV.use (Pa_makeRoom_g F4 t S4 (by rw [rv4, r31]) (by rw [iv4, iv3, iv57, i6]) X4 (fun x hx => td x (by omega)) (by omega)) (by omega) (fun h5 e5 => ?_)
      obtain ⟨e5, F5, R5, X5, l5a, l5m, iv5, jv5, r51, z5⟩ := e5
      have x9 := X4.a
      have n5T : ∀ x, (x = 57 ∨ x = rvA h4 57 9) → T x ≠ 0 := fun x z => by
        rcases z with z | z
        · rw [z, t57]; omega
        · rw [z, x9.2.1]; omega
      have S5 := S4.fn e5 n5T
      have pn5 : ∀ j, j ≤ 105 → j ≠ 57 → (j < 59 ∨ 61 < j) → ¬ (j = 57 ∨ j = rvA h4 57 9) := fun j h1 h2 h3 z => by
        have := x9.out h1 h3
        omega
      have pA5 : Perm T s p a (yB y a) h5 := pA4.fn F4 (by omega) e5 n5T (pn5 _ (by omega) (by omega) (by omega)) (pn5 _ (by omega) (by omega) (by omega)) (pn5 _ (by omega) (by omega) (by omega))
      have pB5 : Perm T s p b (yB y b) h5 := pB4.fn F4 (by omega) e5 n5T (pn5 _ (by omega) (by omega) (by omega)) (pn5 _ (by omega) (by omega) (by omega)) (pn5 _ (by omega) (by omega) (by omega))
      have Pm5 : ∀ i, i < 4 → PA T R i h5 := fun i hi => (Pm4 i hi).fn F4 hi e5 n5T (pn5 _ (by omega) (by omega) (by omega)) (pn5 _ (by omega) (by omega) (by omega)) (pn5 _ (by omega) (by omega) (by omega))
      have O5 : ∀ c, c < sN s → ivA h5 62 c = kI (odF s y c) := fun c hc => by
        rw [e5.iv 62 (oldF F4 (by omega)) (pn5 62 (by omega) (by omega) (by omega))]
        exact O4 c hc
      have f : ∀ k, ivA h5 57 k = ivA hB 57 k := fun k => by rw [iv5, iv4, iv3, iv57]
      -- everything so far changes what may change
      have c9 : APt T (rvA h4 57 9) := by
        have := x9
        unfold PArr at this
        unfold APt
        omega
      have c57 : APt T 57 := by unfold APt; omega
      have e05 : FN (APt T) h h5 := (eB.mono (fun x z => by rw [z]; exact c57)).trans ((e2n.mono (fun x z => by
        rcases z with z | z
        · exact Or.inl z
        · rw [z]; unfold APt; omega)).trans ((e24.mono (fun x z => by unfold APe at z; unfold APt; omega)).trans (e5.mono (fun x z => by
        rcases z with z | z
        · rw [z]; exact c57
        · rw [z]; exact c9))))
      have R05 : Rm h h5 := by
        unfold Rm at R5 ⊢
        omega
      -- leaps
      suffices H : ∀ k, k ≤ 12 → ∀ h6, Fr (fun x _ => x = 58) I0 h5 h6 → (∀ c, c < k → ivA h6 58 c = kI ((wdt s * 2 ^ c + rnk s c : Nat) : Int)) → Safe 8 m_Pa_begin (224, [.ref 57, unV, unV, unV, unV, .int (kI k)], [], h6) (fun x h' => Eqv x none ∧ FN (APt T) h h' ∧ Fix h' ∧ Rm h h' ∧ PAs T h' ∧ (∀ i, i < 4 → PA T R i h') ∧ ivA h' 57 2 = kI v ∧ PGr T s p y a b h' ∧ ivA h' 57 12 = kI (-1) ∧ jvA h' 57 19 = kJ (-1)) by
        exact H 0 (by omega) h5 (Fr_rfl _ _ _) (fun c hc => by omega)
      have t58 := T57 t (i := 58) (by omega) (by omega)
      refine down_ind 12 ?_ ?_
      · intro h6 e6 L6
        have F6 := e6.fix F5
        have rv6 : ∀ x k, rvA h6 x k = rvA h5 x k := fun x k => by rw [e6.2.2.1]
        have f6 : ∀ k, ivA h6 57 k = ivA hB 57 k := fun k => by rw [e6.2.2.2.2.2.1 57 k (by omega), f]
        have S6 := S5.fr e6 (fun x k z => by rw [z, t58]; omega)
        have e6n : FN (fun x => x = 58) h5 h6 := e6.fn (fun x _ z => z) (fun _ _ z => z.elim)
        have n6T : ∀ x, x = 58 → T x ≠ 0 := fun x z => by rw [z, t58]; omega
        have X6 : PAs T h6 := X5.of (fun k _ _ => rv6 57 k) (fun x o => e6n.kl x o) (by rw [e6.2.2.2.1]; omega)
        have ln6 : ∀ x, lnA h6 x = lnA h5 x := fun x => by rw [e6.2.1]
        have l6a : 2 ^ sN s ≤ lnA h6 (rvA h6 57 9) := by rw [rv6, ln6]; exact l5a
        have l6m : 2 ^ sN s * wdt s ≤ lnA h6 (rvA h6 57 10) := by rw [rv6, ln6]; exact l5m
        have P6 : PHd T s p y a b (rvA h6 57 9) (rvA h6 57 10) (rvA h6 57 11) h6 := ⟨F6, t, S6, wy, ha, hb, by rw [rv6, r51], by rw [f6, i3], by rw [f6, i4], by rw [f6, i5], by rw [f6, i6], by rw [f6, i7], rfl, rfl, rfl, ⟨X6.a.1, X6.a.2.1, X6.a.2.2.1, X6.a.2.2.2.1, l6a, X6.a.2.2.2.2.2⟩, ⟨X6.m.1, X6.m.2.1, X6.m.2.2.1, X6.m.2.2.2.1, l6m, X6.m.2.2.2.2.2⟩, ⟨X6.v.1, X6.v.2.1, X6.v.2.2.1, X6.v.2.2.2.1, by rw [X6.l]; exact l6m, X6.v.2.2.2.2.2⟩, X6.ne, L6⟩
        have pA6 := pA5.fn F5 (by omega) e6n n6T (by omega) (by omega) (by omega)
        have pB6 := pB5.fn F5 (by omega) e6n n6T (by omega) (by omega) (by omega)
        have Pm6 : ∀ i, i < 4 → PA T R i h6 := fun i hi => (Pm5 i hi).fn F5 hi e6n n6T (by omega) (by omega) (by omega)
        obtain ⟨ar, har⟩ : ∃ ar, ar = rvA h6 57 9 := ⟨_, rfl⟩
        obtain ⟨mo, hmo⟩ : ∃ mo, mo = rvA h6 57 10 := ⟨_, rfl⟩
        rw [← har, ← hmo] at P6
        have za : ∀ m, m < 2 ^ sN s → ivA h6 ar m = kI 0 := fun m hm => by
          have ne := P6.xa.out (i := 58) (by omega) (by omega)
          rw [e6.2.2.2.2.2.1 ar m ne, har, rv6]
          exact z5 m hm
        refine s_Pa_begin_224 ?_
        have lar : yD y < lnA h6 ar := by have := P6.xa.2.2.2.2.1; have := wy.1; omega
        rw [kd_57 F6, rv_57_8 F6, kd_58 F6, ln_58 F6, if_pos (by decide), ← har, P6.i5, P6.i7, P6.xa.2.2.2.1, kI_shl1 (by omega), ix_kI (by omega)]
        refine ⟨rfl, rfl, rfl, rfl, rfl, rfl, inB_kI (by omega) lar, ?_⟩
        have e7 : FSp T a b ar mo h6 (stI h6 ar (yD y) (kI ((2 ^ rnk s (yL y) : Nat) : Int))) := (Fr_rfl (fun x _ => T x = 1 ∨ x = ar ∨ x = mo) (fun x _ => x = 46 + 3 * a ∨ x = 47 + 3 * a ∨ x = 46 + 3 * b ∨ x = 47 + 3 * b) h6).stI (Or.inr (Or.inl rfl)) _
        have P7 := P6.sp e7
        have e7' : Fr (fun x _ => x = ar) I0 h6 (stI h6 ar (yD y) (kI ((2 ^ rnk s (yL y) : Nat) : Int))) := (Fr_rfl (fun x _ => x = ar) I0 h6).stI rfl _
        have iv7 : ∀ m, ivA (stI h6 ar (yD y) (kI ((2 ^ rnk s (yL y) : Nat) : Int))) ar m = if m = yD y then kI ((2 ^ rnk s (yL y) : Nat) : Int) else ivA h6 ar m := fun m => by
          rw [iv_stI]
          by_cases z : m = yD y
          · rw [if_pos ⟨rfl, z⟩, if_pos z]
          · rw [if_neg (fun q => z q.2), if_neg z]
        have ta := P6.xa.2.1
        have pA7 : Perm T s p a (yB y a) (stI h6 ar (yD y) (kI ((2 ^ rnk s (yL y) : Nat) : Int))) := pA6.fr e7' (fun x _ z => by subst z; exact ⟨by omega, P6.xa.out (by omega) (by omega)⟩) (fun _ => ⟨fun z => z, fun z => z⟩)
        have pB7 : Perm T s p b (yB y b) (stI h6 ar (yD y) (kI ((2 ^ rnk s (yL y) : Nat) : Int))) := pB6.fr e7' (fun x _ z => by subst z; exact ⟨by omega, P6.xa.out (by omega) (by omega)⟩) (fun _ => ⟨fun z => z, fun z => z⟩)
        have O6 : ∀ c, c < sN s → ivA h6 62 c = kI (odF s y c) := fun c hc => by rw [e6.2.2.2.2.2.1 62 c (by omega)]; exact O5 c hc
        refine ⟨by rw [kd_57 P7.F]; rfl, ?_⟩
        rw [P7.i5]
        refine Pa_begin_282 P6 O6 (fun h8 e8 pA8 pB8 G8 => ?_) 10000 (yD y) (by omega) (subB_refl _) (by omega) _ (fun m => if m = yD y then 2 ^ rnk s (yL y) else 0) e7 pA7 pB7 (fun m hm => ?_) (fun m l hm hl => ?_)
        · have t45 : ∀ x, 45 ≤ x → x ≤ 57 → ¬ (T x = 1 ∨ x = ar ∨ x = mo) := fun x h1 h2 z => by
            have := T57 t (i := x) (by omega) (by omega)
            have a1 := P6.xa.out (i := x) (by omega) (by omega)
            have a2 := P6.xm.out (i := x) (by omega) (by omega)
            rcases z with z | z | z
            · omega
            · exact a1 z.symm
            · exact a2 z.symm
          have iv8 : ∀ k, ivA h8 57 k = ivA hB 57 k := fun k => by rw [e8.2.2.2.2.2.1 57 k (t45 57 (by omega) (by omega)), f6]
          have jv8 : ∀ k, jvA h8 57 k = jvA hB 57 k := fun k => by
            rw [e8.2.2.2.2.2.2 57 k (by omega), e6.2.2.2.2.2.2 57 k (fun z => z), jv5, jv4, jv3, jv57]
          have rv8 : ∀ x k, rvA h8 x k = rvA h6 x k := fun x k => by rw [e8.2.2.1]
          have e8n : FN (APt T) h6 h8 := e8.fn (fun x _ z => by
            have := P6.xa
            have := P6.xm
            unfold PArr at *
            have f9 := F6.2.2.2
            have f10 : szA h6 < 910000 := by rw [e6.2.2.2.1]; have := R05.2; omega
            unfold APt
            rcases z with z | z | z
            · omega
            · subst z; omega
            · subst z; omega) (fun x _ z => by unfold APt; omega)
          have e08 : FN (APt T) h h8 := e05.trans ((e6n.mono (fun x z => by rw [z]; unfold APt; omega)).trans e8n)
          have X8 : PAs T h8 := X6.of (fun k _ _ => rv8 57 k) (fun x o => e8n.kl x o) (by rw [e8.2.2.2.1]; omega)
          refine ⟨rfl, e08, e8.fix F6, ?_, X8, fun i hi => ?_, by rw [iv8, i2], G8, by rw [iv8, i12], by rw [jv8, j19]⟩
          · unfold Rm at R05 ⊢
            rw [PhP_of X6 (fun k _ _ => rv8 57 k) (fun x o => e8n.kl x o), PhP_of X5 (fun k _ _ => rv6 57 k) (fun x o => e6n.kl x o), e8.2.2.2.1, e8.2.2.2.2.1, e6.2.2.2.1, e6.2.2.2.2.1]
            exact R05
          · by_cases za : i = a
            · rw [za]; exact pA8.pa hp rp (ybA a)
            · by_cases zb : i = b
              · rw [zb]; exact pB8.pa hp rp (ybA b)
              · have e8m : FN (fun x => (T x = 1 ∨ x = ar ∨ x = mo) ∨ (x = 46 + 3 * a ∨ x = 47 + 3 * a ∨ x = 46 + 3 * b ∨ x = 47 + 3 * b)) h6 h8 := e8.fn (fun x _ z => Or.inl z) (fun x _ z => Or.inr z)
                have q1 := t45 (45 + 3 * i) (by omega) (by omega)
                have q2 := t45 (46 + 3 * i) (by omega) (by omega)
                have q3 := t45 (47 + 3 * i) (by omega) (by omega)
                refine (Pm6 i hi).fn F6 hi e8m (fun x z => ?_) (fun z => by rcases z with z | z; exact q1 z; omega) (fun z => by rcases z with z | z; exact q2 z; omega) (fun z => by rcases z with z | z; exact q3 z; omega)
                rcases z with (z | z | z) | z
                · omega
                · subst z; rw [P6.xa.2.1]; omega
                · subst z; rw [P6.xm.2.1]; omega
                · rw [T57 t (i := x) (by omega) (by omega)]; omega
        · rw [iv7]
          by_cases z : m = yD y
          · rw [if_pos z, if_pos z]
            refine ⟨rfl, show 2 ^ rnk s (yL y) < 2 ^ 13 from Nat.pow_lt_pow_right (by omega) (by omega), fun r => ?_⟩
            rw [two_bit, decide_eq_true_eq]
            constructor
            · intro q; exact ⟨yL y, RE_0.mpr ⟨z, rfl⟩, q⟩
            · rintro ⟨l, q1, q2⟩
              rw [← q2, (RE_0.mp q1).2]
          · rw [if_neg z, if_neg z]
            refine ⟨za m hm, by omega, fun r => ?_⟩
            rw [Nat.zero_testBit]
            constructor
            · intro q; cases q
            · rintro ⟨l, q1, q2⟩
              exact absurd (RE_0.mp q1).1 z
        · have : Wy s y a b tt1 m l = 0 := CW_lo hm
          omega
      · intro k hk ih h6 e6 L6
        have F6 := e6.fix F5
        have f6 : ∀ k, ivA h6 57 k = ivA hB 57 k := fun k => by rw [e6.2.2.2.2.2.1 57 k (by omega), f]
        have rk : rnk s k ≤ 12 := by rw [rnk_c hk]; split <;> omega
        have pk : 2 ^ k ≤ 2048 := by
          have : 2 ^ k ≤ 2 ^ 11 := Nat.pow_le_pow_right (by omega) (by omega)
          have e : (2 : Nat) ^ 11 = 2048 := rfl
          omega
        refine s_Pa_begin_224 ?_
        rw [kd_57 F6, rv_57_8 F6, kd_58 F6, ln_58 F6, if_neg (by rw [decide_eq_true_eq, kI_le (by omega) (by omega) (by omega) (by omega)]; omega)]
        refine ⟨rfl, rfl, rfl, rfl, rfl, ?_⟩
        rw [Pa_rankOf_r F6 w (by rw [f6, i6]) (by omega) hk, f6, i6, kI_shlw _ (by omega) _ (by omega), kI_add, ix_kI (by omega), kd_58 F6, ln_58 F6, kI_add]
        refine ⟨rfl, inB_kI (by omega) hk, ?_⟩
        refine ih _ (e6.stI rfl _) (fun c hc => ?_)
        rw [iv_stI]
        by_cases z : c = k
        · rw [if_pos ⟨rfl, z⟩, z]; rfl
        · rw [if_neg (fun q => z q.2)]
          exact L6 c (by omega)
    · intro k hk ih h2 e2 O2
      have S2 := SB.fr e2 (fun x k z => nz x k z)
      have F2 := e2.fix FB
      have rv2 : ∀ x k, rvA h2 x k = rvA hB x k := fun x k => by rw [e2.2.2.1]
      have iv57 : ∀ k, ivA h2 57 k = ivA hB 57 k := fun k => e2.2.2.2.2.2.1 57 k (by omega)
      refine s_Pa_begin_141 ?_
      rw [kd_57 F2, rv2 57 1, r1, S2.k, S2.i2, if_neg (by rw [decide_eq_true_eq, kI_le (by omega) (by omega) (by omega) (by omega)]; omega), iv57, i5]
      refine ⟨rfl, rfl, rfl, rfl, rfl, rfl, ?_⟩
      refine GI.use (Sh_oddsOf_g S2 hk hD) (by omega) (fun h3 e3 => ?_)
      have F3 := e3.fix F2
      have e3' : Fr (fun x _ => T x = 1 ∨ x = 62) JM hB h3 := e2.trans (e3.mono (fun _ _ z => Or.inl z) (fun _ _ z => z))
      rw [rv_57_15 F2, kd_62 F3, ln_62 F3, ix_kI (by omega), kI_add]
      refine ⟨rfl, inB_kI (by omega) (by omega), ?_⟩
      refine ih _ (e3'.stI (Or.inr rfl) _) (fun c hc => ?_)
      rw [iv_stI]
      by_cases z : c = k
      · rw [if_pos ⟨rfl, z⟩, z]; rfl
      · rw [if_neg (fun q => z q.2), e3.2.2.2.2.2.1 62 c (by omega)]
        exact O2 c (by omega)
  -- the first stores
  have t57 := T57 t (i := 57) (by omega) (by omega)
  have n57 : ∀ x, x = 57 → T x ≠ 0 := fun x z => by rw [z, t57]; omega
  have F1 : Fix (stR h 57 1 p) := fix_stR F (fun q hq z => rvT_57 q hq ⟨z.1, by omega⟩)
  obtain ⟨h1, h1e⟩ : ∃ h1, h1 = stI (stI (stI (stI (stR h 57 1 p) 57 2 (kI v)) 57 3 (kI a)) 57 4 (kI b)) 57 5 (kI (yD y)) := ⟨_, rfl⟩
  have f1 : Fr (fun x _ => x = 57) I0 (stR h 57 1 p) h1 := by
    rw [h1e]
    exact ((((Fr_rfl (fun x _ => x = 57) I0 (stR h 57 1 p)).stI rfl _).stI rfl _).stI rfl _).stI rfl _
  have e1 : FN (fun x => x = 57) h h1 := (FN_stR (h := h) (a := 57) (k := 1) (x := p) (A := fun x => x = 57) rfl).trans (f1.fn (fun x _ z => z) (fun _ _ z => z.elim))
  have FF1 := f1.fix F1
  refine s_Pa_begin_29 ?_
  rw [show ivA (stR h 57 1 p) 8 3 = kI v from Pg.i3, show ivA (stI (stI (stI (stR h 57 1 p) 57 2 (kI v)) 57 3 (kI a)) 57 4 (kI b)) 8 0 = kI (yD y) from by rw [iv_stI, if_neg (by omega), iv_stI, if_neg (by omega), iv_stI, if_neg (by omega)]; exact Pg.i0, ← h1e]
  simp only [kd_stI, kd_stR, kd_57 F, kd_8 F, decide_true, true_and]
  have S1 := S.fn e1 n57
  have r1 : rvA h1 57 1 = p := by rw [f1.2.2.1, rv_stR, if_pos ⟨rfl, rfl⟩]
  have rr1 : ∀ k, k ≠ 1 → rvA h1 57 k = rvA h 57 k := fun k hk => by rw [f1.2.2.1, rv_stR, if_neg (fun z => hk z.2)]
  have Pg1 : XP y v 8 h1 := Pg.fn F e1 (by omega) (by omega) (by omega)
  have g2 : ivA h1 57 2 = kI v := by rw [h1e, iv_stI, if_neg (by omega), iv_stI, if_neg (by omega), iv_stI, if_neg (by omega), iv_stI, if_pos ⟨rfl, rfl⟩]
  have g3 : ivA h1 57 3 = kI a := by rw [h1e, iv_stI, if_neg (by omega), iv_stI, if_neg (by omega), iv_stI, if_pos ⟨rfl, rfl⟩]
  have g4 : ivA h1 57 4 = kI b := by rw [h1e, iv_stI, if_neg (by omega), iv_stI, if_pos ⟨rfl, rfl⟩]
  have g5 : ivA h1 57 5 = kI (yD y) := by rw [h1e, iv_stI, if_pos ⟨rfl, rfl⟩]
  have s85 : Safe 8 m_Pa_begin (85, [.ref 57, unV, .ref 8, .int (kI a), .int (kI b), unV], [.int (kI (wdt s)), .ref 57], h1) (fun x h' => Eqv x none ∧ FN (APt T) h h' ∧ Fix h' ∧ Rm h h' ∧ PAs T h' ∧ (∀ i, i < 4 → PA T R i h') ∧ ivA h' 57 2 = kI v ∧ PGr T s p y a b h' ∧ ivA h' 57 12 = kI (-1) ∧ jvA h' 57 19 = kJ (-1)) := by
    have s123 : Safe 8 m_Pa_begin (123, [.ref 57, unV, .ref 8, .int (kI a), .int (kI b), unV], [.int (kI (rnk s (yL y) : Nat)), .ref 57], stI h1 57 6 (kI (wdt s))) (fun x h' => Eqv x none ∧ FN (APt T) h h' ∧ Fix h' ∧ Rm h h' ∧ PAs T h' ∧ (∀ i, i < 4 → PA T R i h') ∧ ivA h' 57 2 = kI v ∧ PGr T s p y a b h' ∧ ivA h' 57 12 = kI (-1) ∧ jvA h' 57 19 = kJ (-1)) := by
      refine s_Pa_begin_123 ?_
      simp only [kd_stI, kd_57 FF1, decide_true, true_and]
      obtain ⟨h2, h2e⟩ : ∃ h2, h2 = stJ (stI (stI (stI h1 57 6 (kI (wdt s))) 57 7 (kI (rnk s (yL y) : Nat))) 57 12 (kI (-1))) 57 19 (kJ (-1)) := ⟨_, rfl⟩
      rw [← h2e]
      have f2 : Fr (fun x _ => x = 57) (fun x _ => x = 57) h1 h2 := by
        rw [h2e]
        exact ((((Fr_rfl (fun x _ => x = 57) (fun x _ => x = 57) h1).stI rfl _).stI rfl _).stI rfl _).stJ rfl _
      have iv2 : ∀ k, k ≠ 6 → k ≠ 7 → k ≠ 12 → ivA h2 57 k = ivA h1 57 k := fun k k1 k2 k3 => by
        rw [h2e, iv_stJ, iv_stI, if_neg (fun z => k3 z.2), iv_stI, if_neg (fun z => k2 z.2), iv_stI, if_neg (fun z => k1 z.2)]
      refine main h2 (e1.trans (f2.fn (fun x _ z => z) (fun x _ z => z))) (f2.fix FF1) ?_ ?_ (fun x => ?_) (by rw [f2.2.2.1, r1]) (fun k hk => by rw [f2.2.2.1, rr1 k hk]) (by rw [iv2 2 (by omega) (by omega) (by omega), g2]) (by rw [iv2 3 (by omega) (by omega) (by omega), g3]) (by rw [iv2 4 (by omega) (by omega) (by omega), g4]) (by rw [iv2 5 (by omega) (by omega) (by omega), g5]) ?_ ?_ ?_ ?_
      · rw [f2.2.2.2.1, f1.2.2.2.1]; rfl
      · rw [f2.2.2.2.2.1, f1.2.2.2.2.1]; rfl
      · rw [f2.1, f2.2.1, f1.1, f1.2.1]; exact ⟨rfl, rfl⟩
      · rw [h2e, iv_stJ, iv_stI, if_neg (by omega), iv_stI, if_neg (by omega), iv_stI, if_pos ⟨rfl, rfl⟩]
      · rw [h2e, iv_stJ, iv_stI, if_neg (by omega), iv_stI, if_pos ⟨rfl, rfl⟩]
      · rw [h2e, iv_stJ, iv_stI, if_pos ⟨rfl, rfl⟩]
      · rw [h2e, jv_stJ, if_pos ⟨rfl, rfl⟩]
    have i66 : ivA (stI h1 57 6 (kI (wdt s))) 57 6 = kI (wdt s) := by rw [iv_stI, if_pos ⟨rfl, rfl⟩]
    have i81 : ivA (stI h1 57 6 (kI (wdt s))) 8 1 = kI (lx (yL y)) := by rw [iv_stI, if_neg (by omega)]; exact Pg1.i1
    have ip2 : ivA (stI h1 57 6 (kI (wdt s))) p 2 = kI (sN s) := by
      have : p ≠ 57 := fun z => by have := S1.gp; rw [z, t57] at this; omega
      rw [iv_stI, if_neg (fun z => this z.1)]; exact S1.i2
    refine s_Pa_begin_85 ?_
    rw [i66, i81]
    simp only [kd_stI, rv_stI, kd_57 FF1, kd_8 FF1, r1, S1.k, decide_true, true_and]
    by_cases qw : wideB s = true
    · have : ¬ wdt s = 1 := fun z => (wdt_1 w).mp z qw
      rw [if_pos (by rw [Bool.not_eq_true', decide_eq_false_iff_not, kI_inj (by omega) (by omega) (by omega) (by omega)]; omega)]
      by_cases ql : yL y = 12
      · have e : rnk s (yL y) = sN s := by unfold rnk; rw [if_pos qw, if_pos ql]
        rw [e] at s123
        rw [ql, if_neg (by decide), ip2]
        exact s123
      · have e : rnk s (yL y) = yL y := by unfold rnk; rw [if_pos qw, if_neg ql]
        have e2 : lx (yL y) = (yL y : Int) := by unfold lx; rw [if_neg ql]
        rw [e] at s123
        rw [e2, if_pos (by rw [Bool.not_eq_true', decide_eq_false_iff_not, kI_inj (by omega) (by omega) (by omega) (by omega)]; omega)]
        exact s123
    · have e1 : wdt s = 1 := (wdt_1 w).mpr qw
      have e : rnk s (yL y) = 0 := by unfold rnk; rw [if_neg qw]
      rw [if_neg (by rw [e1]; decide)]
      rw [e] at s123
      exact s123
  refine s_Pa_begin_61 ?_
  rw [r1, S1.k, kd_57 FF1, S1.i8, S1.i2]
  refine ⟨rfl, rfl, ?_⟩
  by_cases qw : wideB s = true
  · have e : wdt s = sN s + 1 := by unfold wdt; rw [if_pos qw]
    rw [if_neg (by rw [dec_b0]; exact fun z => z ((wide_iff s).mp qw)), kI_add]
    rw [e] at s85
    exact ⟨rfl, rfl, s85⟩
  · have e : wdt s = 1 := by unfold wdt; rw [if_neg qw]
    rw [if_pos (by rw [dec_b0]; exact fun z => qw ((wide_iff s).mpr z))]
    rw [e] at s85
    exact s85
