/-! the paths' graph: one mask is spread -/
set_option maxRecDepth 100000 in
theorem i16_all : ∀ n : Nat, n < 4096 → (kI (n : Int)).toInt16.toInt32.toInt16.toInt32 = kI (n : Int) := by decide +kernel
theorem kI_shlw : ∀ w : Nat, w < 14 → ∀ c : Nat, c < 13 → kI (w : Int) <<< (kI (c : Int) &&& 31) = kI ((w * 2 ^ c : Nat) : Int) := by decide +kernel
def Perm (T : Nat → Nat) (s : ST) (p i hb : Nat) (h : AH) : Prop := ∃ ask hol, PS T s p i hb ask hol h
theorem Perm.fr {T : Nat → Nat} {s : ST} {p i hb : Nat} {I J : Nat → Nat → Prop} {h h' : AH} (P : Perm T s p i hb h) (e : Fr I J h h') (hi : ∀ x k, I x k → T x ≠ 0 ∧ x ≠ 45 + 3 * i) (hj : ∀ k, ¬ J (46 + 3 * i) k ∧ ¬ J (47 + 3 * i) k) : Perm T s p i hb h' := by
  obtain ⟨ask, hol, P⟩ := P
  refine ⟨ask, hol, P.S.fr e (fun x k w => (hi x k w).1), ?_, ?_, ?_, fun k hk => ?_, fun k hk => ?_, P.v⟩
  · rw [e.2.2.2.2.2.1 _ _ (fun w => (hi _ _ w).2 rfl)]; exact P.i0
  · rw [e.2.2.2.2.2.1 _ _ (fun w => (hi _ _ w).2 rfl)]; exact P.i2
  · rw [e.2.2.1]; exact P.r
  · rw [e.2.2.2.2.2.2 _ _ (hj k).1]; exact P.ja k hk
  · rw [e.2.2.2.2.2.2 _ _ (hj k).2]; exact P.jh k hk
/-- an array of the paths -/
def PArr (T : Nat → Nat) (x kd n : Nat) (h : AH) : Prop := ((59 ≤ x ∧ x ≤ 61) ∨ 105 < x) ∧ T x = 2 ∧ x ≤ szA h ∧ kdA h x = kd ∧ n ≤ lnA h x ∧ lnA h x < 60000
theorem PArr.fr {T : Nat → Nat} {x kd n : Nat} {I J : Nat → Nat → Prop} {h h' : AH} (P : PArr T x kd n h) (e : Fr I J h h') : PArr T x kd n h' := by
  unfold PArr at *
  rw [e.1, e.2.1, e.2.2.2.1]
  exact P
def PHd (T : Nat → Nat) (s : ST) (p : Nat) (y : DY) (a : Nat) (b : Nat) (ar : Nat) (mo : Nat) (va : Nat) (h : AH) : Prop := (Fix h) ∧ (TF T) ∧ (XS T s p h) ∧ (WFY s y) ∧ (a < sH s) ∧ (b < sH s) ∧ (rvA h 57 1 = p) ∧ (ivA h 57 3 = kI a) ∧ (ivA h 57 4 = kI b) ∧ (ivA h 57 5 = kI (yD y)) ∧ (ivA h 57 6 = kI (wdt s)) ∧ (ivA h 57 7 = kI (rnk s (yL y))) ∧ (rvA h 57 9 = ar) ∧ (rvA h 57 10 = mo) ∧ (rvA h 57 11 = va) ∧ (PArr T ar 20 (2 ^ sN s) h) ∧ (PArr T mo 23 (2 ^ sN s * wdt s) h) ∧ (PArr T va 20 (2 ^ sN s * wdt s) h) ∧ (ar ≠ mo ∧ ar ≠ va ∧ mo ≠ va) ∧ (∀ c, c < 12 → ivA h 58 c = kI ((wdt s * 2 ^ c + rnk s c : Nat) : Int))
theorem PHd.F {T : Nat → Nat} {s : ST} {p : Nat} {y : DY} {a : Nat} {b : Nat} {ar : Nat} {mo : Nat} {va : Nat} {h : AH} (C : PHd T s p y a b ar mo va h) : Fix h := C.1
theorem PHd.t {T : Nat → Nat} {s : ST} {p : Nat} {y : DY} {a : Nat} {b : Nat} {ar : Nat} {mo : Nat} {va : Nat} {h : AH} (C : PHd T s p y a b ar mo va h) : TF T := C.2.1
theorem PHd.S {T : Nat → Nat} {s : ST} {p : Nat} {y : DY} {a : Nat} {b : Nat} {ar : Nat} {mo : Nat} {va : Nat} {h : AH} (C : PHd T s p y a b ar mo va h) : XS T s p h := C.2.2.1
theorem PHd.wy {T : Nat → Nat} {s : ST} {p : Nat} {y : DY} {a : Nat} {b : Nat} {ar : Nat} {mo : Nat} {va : Nat} {h : AH} (C : PHd T s p y a b ar mo va h) : WFY s y := C.2.2.2.1
theorem PHd.ha {T : Nat → Nat} {s : ST} {p : Nat} {y : DY} {a : Nat} {b : Nat} {ar : Nat} {mo : Nat} {va : Nat} {h : AH} (C : PHd T s p y a b ar mo va h) : a < sH s := C.2.2.2.2.1
theorem PHd.hb {T : Nat → Nat} {s : ST} {p : Nat} {y : DY} {a : Nat} {b : Nat} {ar : Nat} {mo : Nat} {va : Nat} {h : AH} (C : PHd T s p y a b ar mo va h) : b < sH s := C.2.2.2.2.2.1
theorem PHd.r1 {T : Nat → Nat} {s : ST} {p : Nat} {y : DY} {a : Nat} {b : Nat} {ar : Nat} {mo : Nat} {va : Nat} {h : AH} (C : PHd T s p y a b ar mo va h) : rvA h 57 1 = p := C.2.2.2.2.2.2.1
theorem PHd.i3 {T : Nat → Nat} {s : ST} {p : Nat} {y : DY} {a : Nat} {b : Nat} {ar : Nat} {mo : Nat} {va : Nat} {h : AH} (C : PHd T s p y a b ar mo va h) : ivA h 57 3 = kI a := C.2.2.2.2.2.2.2.1
theorem PHd.i4 {T : Nat → Nat} {s : ST} {p : Nat} {y : DY} {a : Nat} {b : Nat} {ar : Nat} {mo : Nat} {va : Nat} {h : AH} (C : PHd T s p y a b ar mo va h) : ivA h 57 4 = kI b := C.2.2.2.2.2.2.2.2.1
theorem PHd.i5 {T : Nat → Nat} {s : ST} {p : Nat} {y : DY} {a : Nat} {b : Nat} {ar : Nat} {mo : Nat} {va : Nat} {h : AH} (C : PHd T s p y a b ar mo va h) : ivA h 57 5 = kI (yD y) := C.2.2.2.2.2.2.2.2.2.1
theorem PHd.i6 {T : Nat → Nat} {s : ST} {p : Nat} {y : DY} {a : Nat} {b : Nat} {ar : Nat} {mo : Nat} {va : Nat} {h : AH} (C : PHd T s p y a b ar mo va h) : ivA h 57 6 = kI (wdt s) := C.2.2.2.2.2.2.2.2.2.2.1
theorem PHd.i7 {T : Nat → Nat} {s : ST} {p : Nat} {y : DY} {a : Nat} {b : Nat} {ar : Nat} {mo : Nat} {va : Nat} {h : AH} (C : PHd T s p y a b ar mo va h) : ivA h 57 7 = kI (rnk s (yL y)) := C.2.2.2.2.2.2.2.2.2.2.2.1
theorem PHd.r9 {T : Nat → Nat} {s : ST} {p : Nat} {y : DY} {a : Nat} {b : Nat} {ar : Nat} {mo : Nat} {va : Nat} {h : AH} (C : PHd T s p y a b ar mo va h) : rvA h 57 9 = ar := C.2.2.2.2.2.2.2.2.2.2.2.2.1
theorem PHd.r10 {T : Nat → Nat} {s : ST} {p : Nat} {y : DY} {a : Nat} {b : Nat} {ar : Nat} {mo : Nat} {va : Nat} {h : AH} (C : PHd T s p y a b ar mo va h) : rvA h 57 10 = mo := C.2.2.2.2.2.2.2.2.2.2.2.2.2.1
theorem PHd.r11 {T : Nat → Nat} {s : ST} {p : Nat} {y : DY} {a : Nat} {b : Nat} {ar : Nat} {mo : Nat} {va : Nat} {h : AH} (C : PHd T s p y a b ar mo va h) : rvA h 57 11 = va := C.2.2.2.2.2.2.2.2.2.2.2.2.2.2.1
theorem PHd.xa {T : Nat → Nat} {s : ST} {p : Nat} {y : DY} {a : Nat} {b : Nat} {ar : Nat} {mo : Nat} {va : Nat} {h : AH} (C : PHd T s p y a b ar mo va h) : PArr T ar 20 (2 ^ sN s) h := C.2.2.2.2.2.2.2.2.2.2.2.2.2.2.2.1
theorem PHd.xm {T : Nat → Nat} {s : ST} {p : Nat} {y : DY} {a : Nat} {b : Nat} {ar : Nat} {mo : Nat} {va : Nat} {h : AH} (C : PHd T s p y a b ar mo va h) : PArr T mo 23 (2 ^ sN s * wdt s) h := C.2.2.2.2.2.2.2.2.2.2.2.2.2.2.2.2.1
theorem PHd.xv {T : Nat → Nat} {s : ST} {p : Nat} {y : DY} {a : Nat} {b : Nat} {ar : Nat} {mo : Nat} {va : Nat} {h : AH} (C : PHd T s p y a b ar mo va h) : PArr T va 20 (2 ^ sN s * wdt s) h := C.2.2.2.2.2.2.2.2.2.2.2.2.2.2.2.2.2.1
theorem PHd.ne {T : Nat → Nat} {s : ST} {p : Nat} {y : DY} {a : Nat} {b : Nat} {ar : Nat} {mo : Nat} {va : Nat} {h : AH} (C : PHd T s p y a b ar mo va h) : ar ≠ mo ∧ ar ≠ va ∧ mo ≠ va := C.2.2.2.2.2.2.2.2.2.2.2.2.2.2.2.2.2.2.1
theorem PHd.lp {T : Nat → Nat} {s : ST} {p : Nat} {y : DY} {a : Nat} {b : Nat} {ar : Nat} {mo : Nat} {va : Nat} {h : AH} (C : PHd T s p y a b ar mo va h) : ∀ c, c < 12 → ivA h 58 c = kI ((wdt s * 2 ^ c + rnk s c : Nat) : Int) := C.2.2.2.2.2.2.2.2.2.2.2.2.2.2.2.2.2.2.2
theorem PHd.fr {T : Nat → Nat} {s : ST} {p : Nat} {y : DY} {a b ar mo va : Nat} {I J : Nat → Nat → Prop} {h h' : AH} (P : PHd T s p y a b ar mo va h) (e : Fr I J h h') (hi : ∀ x k, I x k → T x ≠ 0 ∧ x ≠ 58 ∧ (x = 57 → 12 ≤ k)) : PHd T s p y a b ar mo va h' := by
  have i57 : ∀ k, k < 12 → ivA h' 57 k = ivA h 57 k := fun k hk => e.2.2.2.2.2.1 57 k (fun w => by have := (hi _ _ w).2.2 rfl; omega)
  have r : ∀ x k, rvA h' x k = rvA h x k := fun x k => by rw [e.2.2.1]
  refine ⟨e.fix P.F, P.t, P.S.fr e (fun x k w => (hi x k w).1), P.wy, P.ha, P.hb, by rw [r]; exact P.r1, by rw [i57 _ (by omega)]; exact P.i3, by rw [i57 _ (by omega)]; exact P.i4, by rw [i57 _ (by omega)]; exact P.i5, by rw [i57 _ (by omega)]; exact P.i6, by rw [i57 _ (by omega)]; exact P.i7, by rw [r]; exact P.r9, by rw [r]; exact P.r10, by rw [r]; exact P.r11, P.xa.fr e, P.xm.fr e, P.xv.fr e, P.ne, fun c hc => ?_⟩
  rw [e.2.2.2.2.2.1 _ _ (fun w => (hi _ _ w).2.1 rfl)]
  exact P.lp c hc
theorem sub_xor_lt {D m n : Nat} (h : m < 2 ^ n) (h2 : D < 2 ^ n) : m ^^^ D < 2 ^ n := Nat.xor_lt_two_pow h h2
theorem Pa_strokesTo_c {T : Nat → Nat} {s : ST} {p : Nat} {y : DY} {a b ar mo va d : Nat} {h : AH} (P : PHd T s p y a b ar mo va h) (hd : 2 ≤ d) {m : Nat} (hm : m < 4096) (sb : subB (yD y) m) {K : Int32 → AH → Prop} : CallI d m_Pa_strokesTo [.ref 57, .int (kI m)] h K ↔ K (kI ((pop m - pop (yD y) : Nat) : Int)) h := by
  have hD := P.wy.m12 P.S.wf
  refine Ret.I (d := 2) (ret_of (s_Pa_strokesTo_0 ?_)) hd
  refine ⟨by rw [kd_57 P.F]; rfl, ?_⟩
  rw [P.i5, kI_xor, In_bitCount_c (by omega) (sub_xor_lt (n := 12) hm hD), (pop_xor sb).1]
  exact ⟨rfl, rfl⟩
theorem rnk_c {s : ST} {c : Nat} (hc : c < 12) : rnk s c = if wideB s = true then c else 0 := by
  unfold rnk
  rw [if_neg (show ¬ c = 12 by omega)]
theorem wdt_1 {s : ST} (w : WFS s) : wdt s = 1 ↔ ¬ wideB s = true := by
  have := w.n1
  unfold wdt
  by_cases q : wideB s = true
  · rw [if_pos q]; exact ⟨fun z => by omega, fun z => absurd q z⟩
  · rw [if_neg q]; exact ⟨fun _ => q, fun _ => rfl⟩
theorem Pa_rankOf_c {T : Nat → Nat} {s : ST} {p : Nat} {y : DY} {a b ar mo va d : Nat} {h : AH} (P : PHd T s p y a b ar mo va h) (hd : 1 ≤ d) {c : Nat} (hc : c < 12) {K : Int32 → AH → Prop} : CallI d m_Pa_rankOf [.ref 57, .int (kI c)] h K ↔ K (kI (rnk s c : Nat)) h := by
  have w := wdt_b P.S.wf
  refine Ret.I (d := 1) (ret_of (s_Pa_rankOf_0 ?_)) hd
  refine ⟨by rw [kd_57 P.F]; rfl, ?_⟩
  rw [P.i6, rnk_c hc]
  by_cases q : wideB s = true
  · have : ¬ wdt s = 1 := fun z => (wdt_1 P.S.wf).mp z q
    rw [if_pos (by rw [Bool.not_eq_true', decide_eq_false_iff_not, kI_inj (by omega) (by omega) (by omega) (by omega)]; omega), if_pos q]
    exact ⟨rfl, rfl⟩
  · have : wdt s = 1 := (wdt_1 P.S.wf).mpr q
    rw [if_neg (by rw [this]; decide), if_neg q]
    exact ⟨rfl, rfl⟩
theorem idx_lt {N m w r : Nat} (hm : m < N) (hr : r < w) : m * w + r < N * w := by
  have : (m + 1) * w ≤ N * w := Nat.mul_le_mul_right w hm
  rw [Nat.add_mul, Nat.one_mul] at this
  omega
theorem idx_inj {w m r m' r' : Nat} (hr : r < w) (hr' : r' < w) (h : m * w + r = m' * w + r') : m = m' ∧ r = r' := by
  have h1 : (m * w + r) / w = m := by
    rw [Nat.mul_comm, Nat.mul_add_div (by omega), Nat.div_eq_of_lt hr, Nat.add_zero]
  have h2 : (m' * w + r') / w = m' := by
    rw [Nat.mul_comm, Nat.mul_add_div (by omega), Nat.div_eq_of_lt hr', Nat.add_zero]
  have e : m = m' := by rw [← h1, h, h2]
  refine ⟨e, ?_⟩
  rw [e] at h
  omega
theorem PHd.n {T : Nat → Nat} {s : ST} {p : Nat} {y : DY} {a b ar mo va : Nat} {h : AH} (P : PHd T s p y a b ar mo va h) : 2 ^ sN s ≤ 4096 ∧ 1 ≤ 2 ^ sN s ∧ 2 ^ sN s * wdt s ≤ 53248 := by
  have n2 := P.S.wf.n12
  have p12 : 2 ^ sN s ≤ 2 ^ 12 := Nat.pow_le_pow_right (by omega) n2
  have p12' : (2 : Nat) ^ 12 = 4096 := rfl
  have w := wdt_b P.S.wf
  have := Nat.mul_le_mul (show 2 ^ sN s ≤ 4096 by omega) w.2
  exact ⟨by omega, Nat.one_le_two_pow, this⟩
def MovOk (s : ST) (y : DY) (a b mo k : Nat) (h : AH) : Prop := ∀ m l, m < k → 0 < Wy s y a b tt1 m l → ivA h mo (m * wdt s + rnk s l) = kI (mvG s y a b m l)
abbrev FSp (T : Nat → Nat) (a b ar mo : Nat) (h h' : AH) : Prop := Fr (fun x _ => T x = 1 ∨ x = ar ∨ x = mo) (fun x _ => x = 46 + 3 * a ∨ x = 47 + 3 * a ∨ x = 46 + 3 * b ∨ x = 47 + 3 * b) h h'
theorem PArr.out {T : Nat → Nat} {x kd n : Nat} {h : AH} (P : PArr T x kd n h) {i : Nat} (hi : i ≤ 105) (n1 : i < 59 ∨ 61 < i) : x ≠ i := by
  unfold PArr at P
  omega
theorem T57 {T : Nat → Nat} (t : TF T) {i : Nat} (h1 : 8 ≤ i) (h2 : i ≤ 105) : T i = 2 := t.two (by omega) (by omega)
theorem PHd.sp {T : Nat → Nat} {s : ST} {p : Nat} {y : DY} {a b ar mo va : Nat} {h h' : AH} (P : PHd T s p y a b ar mo va h) (e : FSp T a b ar mo h h') : PHd T s p y a b ar mo va h' := P.fr e (fun x k w => by
  have t58 := T57 P.t (i := 58) (by omega) (by omega)
  have t57 := T57 P.t (i := 57) (by omega) (by omega)
  have a1 := P.xa.out (i := 57) (by omega) (by omega)
  have a2 := P.xa.out (i := 58) (by omega) (by omega)
  have m1 := P.xm.out (i := 57) (by omega) (by omega)
  have m2 := P.xm.out (i := 58) (by omega) (by omega)
  have ta : T ar = 2 := P.xa.2.1
  have tm : T mo = 2 := P.xm.2.1
  rcases w with w | w | w
  · exact ⟨by omega, fun z => by rw [z] at w; omega, fun z => by rw [z] at w; omega⟩
  · subst w; exact ⟨by omega, a2, fun z => absurd z a1⟩
  · subst w; exact ⟨by omega, m2, fun z => absurd z m1⟩)
theorem Perm.sp {T : Nat → Nat} {s : ST} {p i hb ar mo : Nat} {h h' : AH} (P : Perm T s p i hb h) (t : TF T) (hi : i < 4) (xa : T ar = 2 ∧ ar ≠ 45 + 3 * i) (xm : T mo = 2 ∧ mo ≠ 45 + 3 * i) {J : Nat → Nat → Prop} (e : Fr (fun x _ => T x = 1 ∨ x = ar ∨ x = mo) J h h') (hj : ∀ k, ¬ J (46 + 3 * i) k ∧ ¬ J (47 + 3 * i) k) : Perm T s p i hb h' := P.fr e (fun x k w => by
  have t45 := T57 t (i := 45 + 3 * i) (by omega) (by omega)
  rcases w with w | w | w
  · exact ⟨by omega, fun z => by rw [z] at w; omega⟩
  · subst w; exact ⟨by omega, xa.2⟩
  · subst w; exact ⟨by omega, xm.2⟩) hj
set_option maxHeartbeats 1000000 in
theorem Pa_spread_g {T : Nat → Nat} {s : ST} {p : Nat} {y : DY} {a b ar mo va : Nat} {h : AH} (P : PHd T s p y a b ar mo va h) (pa : Perm T s p a (yB y a) h) (pb : Perm T s p b (yB y b) h) {k : Nat} (hk : k < 2 ^ sN s) (sb : subB (yD y) k) {arr : Nat → Nat} (A : ∀ m, m < 2 ^ sN s → ivA h ar m = kI (arr m) ∧ arr m < 8192 ∧ Rk s (RE s y a b k m) (arr m)) (M : MovOk s y a b mo k h) : GV 7 m_Pa_spread [.ref 57, .int (kI k)] h (fun h' => FSp T a b ar mo h h' ∧ Perm T s p a (yB y a) h' ∧ Perm T s p b (yB y b) h' ∧ (∃ arr' : Nat → Nat, ∀ m, m < 2 ^ sN s → ivA h' ar m = kI (arr' m) ∧ arr' m < 8192 ∧ Rk s (RE s y a b (k + 1) m) (arr' m)) ∧ MovOk s y a b mo (k + 1) h') := by
  have F := P.F
  have t := P.t
  have w := P.S.wf
  have n1 := w.n1
  have n2 := w.n12
  have n4 := w.2.2.2.2.2.1
  have pn := P.n
  have wd := wdt_b w
  have hD := P.wy.m12 w
  have ha := P.ha
  have hb := P.hb
  have k12 : k < 4096 := by omega
  have ta : T ar = 2 := P.xa.2.1
  have tm : T mo = 2 := P.xm.2.1
  have pk := pop_le k
  -- the hand
  obtain ⟨e, he, hmv, pe⟩ : ∃ e, e < sH s ∧ (∀ l, mvG s y a b k l = mvF s e (yB y e) k l) ∧ ((pop k - pop (yD y)) % 2 = 0 ∧ e = a ∨ ¬ (pop k - pop (yD y)) % 2 = 0 ∧ e = b) := by
    by_cases q : (pop k - pop (yD y)) % 2 = 0
    · exact ⟨a, ha, fun l => by unfold mvG; rw [if_pos q], Or.inl ⟨q, rfl⟩⟩
    · exact ⟨b, hb, fun l => by unfold mvG; rw [if_neg q], Or.inr ⟨q, rfl⟩⟩
  have he9 : yB y e ≤ 9 := P.wy.2.2.2.2 e
  have er : kI ((pop k - pop (yD y) : Nat) : Int) - kI ((pop k - pop (yD y) : Nat) : Int) / kI 2 * kI 2 = kI (((pop k - pop (yD y)) % 2 : Nat) : Int) := kI_rem (b := 2) (by omega) (by omega) (by omega)
  have Ak := A k hk
  have Rk0 : Rk s (fun l => 0 < Wy s y a b tt1 k l) (arr k) := Ak.2.2.congr (fun l => RE_done (Nat.le_refl k))
  have lar : k < lnA h ar := by have := P.xa.2.2.2.2.1; omega
  have ixk : ix (kI (k : Int)) = k := ix_kI (by omega)
  have s25 : Safe 6 m_Pa_spread (25, [.ref 57, .int (kI k), unV, unV, unV, unV, unV, unV, unV, unV], [.int (kI e), .ref 44], h) (fun v h' => Eqv v none ∧ FSp T a b ar mo h h' ∧ Perm T s p a (yB y a) h' ∧ Perm T s p b (yB y b) h' ∧ (∃ arr' : Nat → Nat, ∀ m, m < 2 ^ sN s → ivA h' ar m = kI (arr' m) ∧ arr' m < 8192 ∧ Rk s (RE s y a b (k + 1) m) (arr' m)) ∧ MovOk s y a b mo (k + 1) h') := by
    have pf := pe_fix F (show e < 4 by omega)
    refine s_Pa_spread_25 ?_
    rw [kd_44 F, ln_44 F, kd_57 F, P.r1, P.S.k, ix_kI (by omega), pf.1]
    refine ⟨rfl, rfl, inB_kI (by omega) (by omega), rfl, rfl, ?_⟩
    rw [Sh_nearness_c P.S (by omega) hk, kd_57 F, P.r1, P.S.k]
    refine ⟨rfl, rfl, ?_⟩
    rw [Sh_left_c P.S (by omega) k12, kd_57 F, P.r9, ixk, Ak.1, P.xa.2.2.2.1]
    refine ⟨rfl, rfl, inB_kI (by omega) lar, ?_⟩
    -- what may be drawn
    suffices H : ∀ r, r ≤ wdt s → ∀ (h2 : AH) (dr : Nat), Fr (fun x _ => T x = 1 ∨ x = ar ∨ x = mo) (fun x _ => x = 46 + 3 * a ∨ x = 47 + 3 * a ∨ x = 46 + 3 * b ∨ x = 47 + 3 * b) h h2 → (∀ m, ivA h2 ar m = ivA h ar m) → Perm T s p a (yB y a) h2 → Perm T s p b (yB y b) h2 → (∀ m l, m < k → 0 < Wy s y a b tt1 m l → ivA h2 mo (m * wdt s + rnk s l) = kI (mvG s y a b m l)) → (∀ l, 0 < Wy s y a b tt1 k l → rnk s l < r → ivA h2 mo (k * wdt s + rnk s l) = kI (mvG s y a b k l)) → dr < 4096 → (∀ c, dr.testBit c = true ↔ ∃ l, 0 < Wy s y a b tt1 k l ∧ rnk s l < r ∧ (mvG s y a b k l).testBit c = true) → Safe 6 m_Pa_spread (60, [.ref 57, .int (kI k), .ref (45 + 3 * e), .long (kJ (nrF s k)), unV, .int (kI ((sN s : Int) - pop k)), .int (kI (arr k)), .int (kI dr), .int (kI r), unV], [], h2) (fun v h' => Eqv v none ∧ FSp T a b ar mo h h' ∧ Perm T s p a (yB y a) h' ∧ Perm T s p b (yB y b) h' ∧ (∃ arr' : Nat → Nat, ∀ m, m < 2 ^ sN s → ivA h' ar m = kI (arr' m) ∧ arr' m < 8192 ∧ Rk s (RE s y a b (k + 1) m) (arr' m)) ∧ MovOk s y a b mo (k + 1) h') by
      exact H 0 (by omega) h 0 (Fr_rfl _ _ _) (fun _ => rfl) pa pb M (fun l _ z => by omega) (by omega) (fun c => by
        rw [Nat.zero_testBit]
        exact ⟨fun z => absurd z (by decide), fun ⟨l, _, z, _⟩ => absurd z (Nat.not_lt_zero _)⟩)
    refine down_ind (wdt s) ?_ ?_
    · intro h2 dr e2 a2 pa2 pb2 M2 K2 dl D2
      have P2 := P.sp e2
      refine s_Pa_spread_60 ?_
      rw [kd_57 P2.F, P2.i6, if_pos (by rw [decide_eq_true_eq, kI_le (by omega) (by omega) (by omega) (by omega)]; omega)]
      refine ⟨rfl, ?_⟩
      have D2' : ∀ c, dr.testBit c = true ↔ ∃ l, 0 < Wy s y a b tt1 k l ∧ (mvG s y a b k l).testBit c = true := fun c => by
        rw [D2 c]
        constructor
        · rintro ⟨l, h1, _, h3⟩; exact ⟨l, h1, h3⟩
        · rintro ⟨l, h1, h3⟩; exact ⟨l, h1, rnk_lt (Wy_l w P.wy h1).1, h3⟩
      have M2' : MovOk s y a b mo (k + 1) h2 := fun m l hm hl => by
        by_cases q : m = k
        · rw [q] at hl ⊢
          exact K2 l hl (rnk_lt (Wy_l w P.wy hl).1)
        · exact M2 m l (by omega) hl
      suffices H : ∀ j, j ≤ sN s → ∀ (h3 : AH) (arr' : Nat → Nat), Fr (fun x _ => x = ar) I0 h2 h3 → (∀ m, m < 2 ^ sN s → ivA h3 ar m = kI (arr' m) ∧ arr' m < 8192 ∧ Rk s (fun l => RE s y a b k m l ∨ (l < j ∧ dr.testBit l = true ∧ m = k ||| 2 ^ l)) (arr' m)) → Safe 6 m_Pa_spread (139, [.ref 57, .int (kI k), unV, unV, unV, unV, unV, .int (kI dr), .int (kI j), unV], [], h3) (fun v h' => Eqv v none ∧ FSp T a b ar mo h h' ∧ Perm T s p a (yB y a) h' ∧ Perm T s p b (yB y b) h' ∧ (∃ arr' : Nat → Nat, ∀ m, m < 2 ^ sN s → ivA h' ar m = kI (arr' m) ∧ arr' m < 8192 ∧ Rk s (RE s y a b (k + 1) m) (arr' m)) ∧ MovOk s y a b mo (k + 1) h') by
        exact H 0 (by omega) h2 arr (Fr_rfl _ _ _) (fun m hm => ⟨by rw [a2]; exact (A m hm).1, (A m hm).2.1, (A m hm).2.2.congr (fun l => ⟨Or.inl, fun z => by rcases z with z | z; exact z; omega⟩)⟩)
      have fa : ∀ h3, Fr (fun x _ => x = ar) I0 h2 h3 → FSp T a b ar mo h2 h3 := fun h3 e3 => e3.mono (fun x k z => Or.inr (Or.inl z)) (fun _ _ z => z.elim)
      refine down_ind (sN s) ?_ ?_
      · intro h3 arr' e3 A3
        have P3 := P2.sp (fa h3 e3)
        refine s_Pa_spread_139 ?_
        rw [kd_57 P3.F, P3.r1, P3.S.k, P3.S.i2, if_pos (by rw [decide_eq_true_eq, kI_le (by omega) (by omega) (by omega) (by omega)]; omega)]
        refine ⟨rfl, rfl, rfl, e2.trans (fa h3 e3), ?_, ?_, ⟨arr', fun m hm => ⟨(A3 m hm).1, (A3 m hm).2.1, (A3 m hm).2.2.congr (fun l => ?_)⟩⟩, fun m l hm hl => ?_⟩
        · exact pa2.fr e3 (fun x _ z => by subst z; exact ⟨by omega, P.xa.out (by omega) (by omega)⟩) (fun _ => ⟨fun z => z, fun z => z⟩)
        · exact pb2.fr e3 (fun x _ z => by subst z; exact ⟨by omega, P.xa.out (by omega) (by omega)⟩) (fun _ => ⟨fun z => z, fun z => z⟩)
        · rw [RE_step]
          constructor
          · rintro (z | ⟨z1, z2, z3⟩)
            · exact Or.inl z
            · right
              obtain ⟨l', g1, g2⟩ := (D2' l).mp z2
              have nb := mvG_N w g2
              refine ⟨by rw [z3]; exact or_self_bit k l, by rw [z3]; exact or_xor nb.2, l', ?_, g2, g1⟩
              have := (Wy_l w P.wy g1).1
              omega
          · rintro (z | ⟨z1, z2, l', z3, z4, z5⟩)
            · exact Or.inl z
            · right
              have nb := mvG_N w z4
              exact ⟨nb.1, (D2' l).mpr ⟨l', z5, z4⟩, by rw [← z2, xor_or z1]⟩
        · rw [e3.2.2.2.2.2.1 mo _ (fun z => P.ne.1 z.symm)]
          exact M2' m l hm hl
      · intro j hj ih h3 arr' e3 A3
        have P3 := P2.sp (fa h3 e3)
        have F3 := P3.F
        refine s_Pa_spread_139 ?_
        rw [kd_57 F3, P3.r1, P3.S.k, P3.S.i2, if_neg (by rw [decide_eq_true_eq, kI_le (by omega) (by omega) (by omega) (by omega)]; omega), kI_bit (by omega) (by omega)]
        refine ⟨rfl, rfl, ?_⟩
        by_cases qb : dr.testBit j = true
        · obtain ⟨l', g1, g2⟩ := (D2' j).mp qb
          have nb := mvG_N w g2
          have kj := or_lt2 hk nb.1
          have lar3 : k ||| 2 ^ j < lnA h3 ar := by have := P3.xa.2.2.2.2.1; omega
          have rj := rnk_lt (s := s) (l := j) (Or.inr nb.1)
          have Aj := A3 (k ||| 2 ^ j) kj
          have ixj : ix (kI ((k ||| 2 ^ j : Nat) : Int)) = k ||| 2 ^ j := ix_kI (by omega)
          rw [if_neg (by rw [dec_b0]; exact fun z => z qb), P3.r9, kI_shl1 (by omega), kI_or, P3.xa.2.2.2.1, ixj]
          refine ⟨rfl, rfl, inB_kI (by omega) lar3, rfl, ?_⟩
          rw [Pa_rankOf_c P3 (by omega) (by omega), P3.xa.2.2.2.1, Aj.1, kI_shl1 (by omega), kI_or, kI_add]
          refine ⟨rfl, inB_kI (by omega) lar3, ?_⟩
          refine ih _ (up1 arr' (k ||| 2 ^ j) (arr' (k ||| 2 ^ j) ||| 2 ^ rnk s j)) (e3.stI rfl _) (fun m hm => ?_)
          rw [iv_stI]
          by_cases qm : m = k ||| 2 ^ j
          · rw [if_pos ⟨rfl, qm⟩, qm, up1_eq]
            refine ⟨rfl, Nat.or_lt_two_pow (n := 13) Aj.2.1 (Nat.pow_lt_pow_right (by omega) (by omega)), (Aj.2.2.or (c := j)).congr (fun l => ?_)⟩
            constructor
            · rintro ((z | z) | z)
              · exact Or.inl z
              · exact Or.inr ⟨by omega, z.2⟩
              · rw [z]; exact Or.inr ⟨by omega, qb, rfl⟩
            · rintro (z | z)
              · exact Or.inl (Or.inl z)
              · by_cases e0 : l = j
                · exact Or.inr e0
                · exact Or.inl (Or.inr ⟨by omega, z.2⟩)
          · rw [if_neg (fun z => qm z.2), up1_ne _ _ qm]
            refine ⟨(A3 m hm).1, (A3 m hm).2.1, (A3 m hm).2.2.congr (fun l => ?_)⟩
            constructor
            · rintro (z | z)
              · exact Or.inl z
              · exact Or.inr ⟨by omega, z.2⟩
            · rintro (z | z)
              · exact Or.inl z
              · by_cases e0 : l = j
                · rw [e0] at z; exact absurd z.2.2 qm
                · exact Or.inr ⟨by omega, z.2⟩
        · rw [if_pos (by rw [dec_b0]; exact qb), kI_add]
          refine ih h3 arr' e3 (fun m hm => ⟨(A3 m hm).1, (A3 m hm).2.1, (A3 m hm).2.2.congr (fun l => ?_)⟩)
          constructor
          · rintro (z | z)
            · exact Or.inl z
            · exact Or.inr ⟨by omega, z.2⟩
          · rintro (z | z)
            · exact Or.inl z
            · by_cases e0 : l = j
              · rw [e0] at z; exact absurd z.2.1 qb
              · exact Or.inr ⟨by omega, z.2⟩
    · intro r hr ih h2 dr e2 a2 pa2 pb2 M2 K2 dl D2
      have P2 := P.sp e2
      have F2 := P2.F
      have r13 : r < 13 := by omega
      refine s_Pa_spread_60 ?_
      rw [kd_57 F2, P2.i6, if_neg (by rw [decide_eq_true_eq, kI_le (by omega) (by omega) (by omega) (by omega)]; omega), kI_bit (by omega) (by omega)]
      refine ⟨rfl, ?_⟩
      by_cases qb : (arr k).testBit r = true
      · obtain ⟨l0, g1, g2⟩ := (Rk0 r).mp qb
        have ol := (Wy_l w P.wy g1).1
        have ou := unr_ok w hr
        rw [if_neg (by rw [dec_b0]; exact fun z => z qb), P2.r1, P2.S.k, P2.S.i2]
        refine ⟨rfl, rfl, ?_⟩
        have s101 : Safe 6 m_Pa_spread (101, [.ref 57, .int (kI k), .ref (45 + 3 * e), .long (kJ (nrF s k)), unV, .int (kI ((sN s : Int) - pop k)), .int (kI (arr k)), .int (kI dr), .int (kI r), unV], [.int (kI (lx (unr s r))), .int (kI ((sN s : Int) - pop k)), .long (kJ (nrF s k)), .ref (45 + 3 * e)], h2) (fun v h' => Eqv v none ∧ FSp T a b ar mo h h' ∧ Perm T s p a (yB y a) h' ∧ Perm T s p b (yB y b) h' ∧ (∃ arr' : Nat → Nat, ∀ m, m < 2 ^ sN s → ivA h' ar m = kI (arr' m) ∧ arr' m < 8192 ∧ Rk s (RE s y a b (k + 1) m) (arr' m)) ∧ MovOk s y a b mo (k + 1) h') := by
          have pf := pe_fix F2 (show e < 4 by omega)
          have pP : Perm T s p e (yB y e) h2 := by
            rcases pe with ⟨_, z⟩ | ⟨_, z⟩
            · rw [z]; exact pa2
            · rw [z]; exact pb2
          obtain ⟨ask, hol, PSe⟩ := pP
          refine s_Pa_spread_101 ?_
          refine ⟨by rw [pf.2.1]; rfl, ?_⟩
          refine GI.use (Pe_open_g t F2 (show e < 4 by omega) he9 PSe hk ou) (by omega) (fun h3 e3 => ?_)
          obtain ⟨e3, ask', hol', PS3⟩ := e3
          have e3' : FSp T a b ar mo h2 h3 := e3.mono (fun _ _ z => Or.inl z) (fun x _ z => by rcases pe with ⟨_, pe⟩ | ⟨_, pe⟩ <;> subst pe <;> omega)
          have P3 := P2.sp e3'
          have F3 := P3.F
          have mveq : mvF s e (yB y e) k (unr s r) = mvG s y a b k l0 := by
            rw [← hmv, ← g2, mvG_rnk w y a b k ol]
          have mvl := mvG_lt w y a b k l0
          have bd := idx_lt hk hr
          have lm3 : k * wdt s + r < lnA h3 mo := by have := P3.xm.2.2.2.2.1; omega
          have eix : kI (k : Int) * kI (wdt s : Int) + kI (r : Int) = kI ((k * wdt s + r : Nat) : Int) := by
            rw [kI_mul, kI_add]; congr 1
          rw [mveq, kd_57 F3, P3.r10, P3.i6, P3.xm.2.2.2.1, eix, ix_kI (by omega), i16_all _ mvl, kI_or, kI_add]
          refine ⟨rfl, rfl, rfl, inB_kI (by omega) lm3, ?_⟩
          have e4 : FSp T a b ar mo h3 (stI h3 mo (k * wdt s + r) (kI (mvG s y a b k l0))) := (Fr_rfl (fun x _ => T x = 1 ∨ x = ar ∨ x = mo) (fun x _ => x = 46 + 3 * a ∨ x = 47 + 3 * a ∨ x = 46 + 3 * b ∨ x = 47 + 3 * b) h3).stI (Or.inr (Or.inr rfl)) _
          have e4' : Fr (fun x _ => x = mo) I0 h3 (stI h3 mo (k * wdt s + r) (kI (mvG s y a b k l0))) := (Fr_rfl (fun x _ => x = mo) I0 h3).stI rfl _
          have mo3 : ∀ j, ivA h3 mo j = ivA h2 mo j := fun j => e3.2.2.2.2.2.1 mo j (fun z => by omega)
          have pe3 : Perm T s p e (yB y e) h3 := ⟨ask', hol', PS3⟩
          have oth : ∀ i, i < 4 → i ≠ e → Perm T s p i (yB y i) h2 → Perm T s p i (yB y i) h3 := fun i hi ne pi => pi.fr e3 (fun x _ z => ⟨by omega, fun z2 => by have := T57 t (i := 45 + 3 * i) (by omega) (by omega); rw [z2] at z; omega⟩) (fun k => ⟨by omega, by omega⟩)
          have up : ∀ i, i < 4 → Perm T s p i (yB y i) h3 → Perm T s p i (yB y i) (stI h3 mo (k * wdt s + r) (kI (mvG s y a b k l0))) := fun i hi pi => pi.fr e4' (fun x _ z => by subst z; exact ⟨by omega, P.xm.out (by omega) (by omega)⟩) (fun _ => ⟨fun z => z, fun z => z⟩)
          have pa3 : Perm T s p a (yB y a) h3 := by
            by_cases z : a = e
            · rw [z]; exact pe3
            · exact oth a (by omega) z pa2
          have pb3 : Perm T s p b (yB y b) h3 := by
            by_cases z : b = e
            · rw [z]; exact pe3
            · exact oth b (by omega) z pb2
          refine ih _ (dr ||| mvG s y a b k l0) (e2.trans (e3'.trans e4)) (fun m => ?_) (up a (by omega) pa3) (up b (by omega) pb3) (fun m l hm hl => ?_) (fun l hl hr' => ?_) (Nat.or_lt_two_pow (n := 12) dl mvl) (fun c => ?_)
          · rw [iv_stI, if_neg (fun z => P.ne.1 z.1), e3.2.2.2.2.2.1 ar _ (fun z => by omega)]
            exact a2 m
          · have rl := rnk_lt (Wy_l w P.wy hl).1
            rw [iv_stI, if_neg (fun z => by have := idx_inj rl hr z.2; omega), mo3]
            exact M2 m l hm hl
          · have ol2 := (Wy_l w P.wy hl).1
            rw [iv_stI]
            by_cases z : rnk s l = r
            · rw [if_pos ⟨rfl, by rw [z]⟩, mvG_rnk2 w y a b k ol2 ol (by rw [z, g2])]
            · rw [if_neg (fun z2 => by omega), mo3]
              exact K2 l hl (by omega)
          · rw [Nat.testBit_or, Bool.or_eq_true, D2 c]
            constructor
            · rintro (⟨l, h1, h2', h3'⟩ | z)
              · exact ⟨l, h1, by omega, h3'⟩
              · exact ⟨l0, g1, by omega, z⟩
            · rintro ⟨l, h1, h2', h3'⟩
              by_cases z : rnk s l = r
              · right
                rw [mvG_rnk2 w y a b k ol (Wy_l w P.wy h1).1 (by rw [z, g2])]
                exact h3'
              · exact Or.inl ⟨l, h1, by omega, h3'⟩
        by_cases qw : wideB s = true
        · by_cases qn : r = sN s
          · have : unr s r = 12 := by unfold unr; rw [if_pos qw, if_pos qn]
            rw [this] at s101
            rw [if_neg (by rw [qn]; simp)]
            exact s101
          · have : unr s r = r := by unfold unr; rw [if_pos qw, if_neg qn]
            rw [this, show lx r = (r : Int) by unfold lx; rw [if_neg (by unfold wdt at hr; rw [if_pos qw] at hr; omega)]] at s101
            rw [if_pos (by rw [Bool.not_eq_true', decide_eq_false_iff_not, kI_inj (by omega) (by omega) (by omega) (by omega)]; omega)]
            exact s101
        · have r0 : r = 0 := by unfold wdt at hr; rw [if_neg qw] at hr; omega
          have : unr s r = 0 := by unfold unr; rw [if_neg qw]
          rw [this] at s101
          rw [if_pos (by rw [Bool.not_eq_true', decide_eq_false_iff_not, kI_inj (by omega) (by omega) (by omega) (by omega)]; omega), r0]
          rw [r0] at s101
          exact s101
      · rw [if_pos (by rw [dec_b0]; exact qb), kI_add]
        refine ih h2 dr e2 a2 pa2 pb2 M2 (fun l hl hr' => ?_) dl (fun c => ?_)
        · have : rnk s l ≠ r := fun z => qb ((Rk0 r).mpr ⟨l, hl, z⟩)
          exact K2 l hl (by omega)
        · rw [D2 c]
          constructor
          · rintro ⟨l, h1, h2', h3'⟩; exact ⟨l, h1, by omega, h3'⟩
          · rintro ⟨l, h1, h2', h3'⟩
            have : rnk s l ≠ r := fun z => qb ((Rk0 r).mpr ⟨l, h1, z⟩)
            exact ⟨l, h1, by omega, h3'⟩
  refine GVo (s_Pa_spread_0 ?_)
  refine ⟨by rw [kd_57 F]; rfl, by rw [kd_57 F]; rfl, ?_⟩
  rw [Pa_strokesTo_c P (by omega) k12 sb, er, rv_57_0 F, kd_57 F, P.i3, P.i4]
  refine ⟨by decide, ?_⟩
  rcases pe with ⟨q, z⟩ | ⟨q, z⟩
  · rw [if_neg (by rw [q]; decide)]
    rw [z] at s25
    exact ⟨rfl, s25⟩
  · rw [if_pos (by rw [Bool.not_eq_true', decide_eq_false_iff_not, z0, kI_inj (by omega) (by omega) (by omega) (by omega)]; omega)]
    rw [z] at s25
    exact ⟨rfl, s25⟩
