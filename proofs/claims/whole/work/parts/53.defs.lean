/-! the sheet as told (ST), what deeds change (DY), what the laws say -/
abbrev ST : Type := Nat × Nat × Nat × Nat × (Nat → Nat) × List Nat × List Nat
abbrev DY : Type := Nat × Nat × Int × (Nat → Nat)
def sR (s : ST) : Nat := s.1
def sW (s : ST) : Nat := s.2.1
def sH (s : ST) : Nat := s.2.2.1
def sL (s : ST) : Nat := s.2.2.2.1
def sK (s : ST) : Nat → Nat := s.2.2.2.2.1
def sM (s : ST) : List Nat := s.2.2.2.2.2.1
def sO (s : ST) : List Nat := s.2.2.2.2.2.2
def sN (s : ST) : Nat := sR s * sW s
def yD (y : DY) : Nat := y.1
def yL (y : DY) : Nat := y.2.1
def yX (y : DY) : Int := y.2.2.1
def yB (y : DY) : Nat → Nat := y.2.2.2
/-- types of the values that wait: true for truths -/
def ty1 (c : Nat) (t : List Bool) : Option (List Bool) :=
  if c < 1008 then (if t.length < 64 then some (false :: t) else none)
  else if c = 3006 then (match t with | true :: r => some (true :: r) | _ => none)
  else if c = 3000 ∨ c = 3001 ∨ c = 3002 then (match t with | false :: false :: r => some (false :: r) | _ => none)
  else if c = 3003 ∨ c = 3004 ∨ c = 3005 then (match t with | false :: false :: r => some (true :: r) | _ => none)
  else if c = 3007 ∨ c = 3008 then (match t with | true :: true :: r => some (true :: r) | _ => none)
  else none
def tyR : List Nat → List Bool → Option (List Bool)
  | [], t => some t
  | c :: r, t => match ty1 c t with
    | none => none
    | some t' => tyR r t'
/-- no code, or one that leaves a truth (b) or a number -/
def WFC (b : Bool) (code : List Nat) : Prop := code = [] ∨ tyR code [] = some [b]
def WFS (s : ST) : Prop := 1 ≤ sR s ∧ 1 ≤ sW s ∧ sR s ≤ 12 ∧ sW s ≤ 12 ∧ sN s ≤ 12 ∧ sH s ≤ 4 ∧ sL s ≤ 2000 ∧ (∀ k, sK s k ≤ 8) ∧ WFC true (sM s) ∧ WFC false (sO s) ∧ (∀ c ∈ sO s, c < 1004 ∨ 3000 ≤ c)
def WFY (s : ST) (y : DY) : Prop := yD y < 2 ^ sN s ∧ (yL y = 12 ∨ yL y < sN s) ∧ -1 ≤ yX y ∧ yX y < sN s ∧ (∀ k, yB y k ≤ 9)
/-! values of a law -/
def clampM (v : Int) : Int := if 1000000 < v then 1000000 else if v < -1000000 then -1000000 else v
def btw (c : Nat) (a b : Int) : Int :=
  if c = 3003 then (if a = b then 1 else 0)
  else if c = 3004 then (if a < b then 1 else 0)
  else if c = 3005 then (if b < a then 1 else 0)
  else if c = 3007 then (if a = 1 ∧ b = 1 then 1 else 0)
  else if c = 3008 then (if a = 1 ∨ b = 1 then 1 else 0)
  else clampM (if c = 3000 then a + b else if c = 3001 then a - b else a * b)
def lstp (w : Nat → Int) (c : Nat) (s : List Int) : List Int :=
  if c < 1000 then (c : Int) :: s
  else if c < 3000 then w (c - 1000) :: s
  else if c = 3006 then (match s with | a :: r => (1 - a) :: r | [] => [])
  else (match s with | b :: a :: r => btw c a b :: r | _ => s)
def runC (w : Nat → Int) : List Nat → List Int → List Int
  | [], s => s
  | c :: r, s => runC w r (lstp w c s)
def evl (w : Nat → Int) (code : List Nat) : Int := (runC w code []).headD 0
def dist (a b : Nat) : Nat := (a - b) + (b - a)
def farF (s : ST) (c l : Nat) : Nat := if l = 12 then 0 else dist (c / sW s) (l / sW s) + dist (c % sW s) (l % sW s)
def nearF (s : ST) (c m : Nat) : Nat := cnt (fun k => m.testBit k && farF s c k == 1) (sN s)
def wdP (s : ST) (c m : Nat) (k : Nat) : Int := if k = 0 then c else if k = 1 then sK s c else if k = 2 then nearF s c m else (sN s : Int) - pop m
def wdF (s : ST) (hd hb c m l : Nat) (k : Nat) : Int := if k < 4 then wdP s c m k else if k = 4 then hd else if k = 5 then hb else if k = 6 then (if l = 12 then 9 else sK s l) else farF s c l
def mayF (s : ST) (hd hb c m l : Nat) : Bool := !m.testBit c && (sM s == [] || evl (wdF s hd hb c m l) (sM s) == 1)
def oddF (s : ST) (c m : Nat) : Nat := if m.testBit c = true then 0 else if sO s = [] then 1 else (min 999 (evl (wdP s c m) (sO s))).toNat
/-! the reference's picture of them -/
def MLaw (code : List Nat) (law b : Nat) (h : AH) : Prop := ivA h 89 (b + 4 + law) = kI (if code = [] then 0 else 1) ∧ (code ≠ [] → ∃ fr : Nat, fr + code.length ≤ 900 ∧ ivA h 89 (b + 6 + law) = kI fr ∧ ivA h 89 (b + 8 + law) = kI code.length ∧ ∀ k, k < code.length → ivA h 89 (b + 101 + fr + k) = kI (code.getD k 0 : Nat))
def MSt (s : ST) (b : Nat) (h : AH) : Prop := ivA h 89 b = kI (sL s) ∧ ivA h 89 (b + 1) = kI (sR s) ∧ ivA h 89 (b + 2) = kI (sW s) ∧ ivA h 89 (b + 3) = kI (sH s) ∧ (∀ k, k < 12 → ivA h 89 (b + 10 + k) = kI (sK s k)) ∧ MLaw (sM s) 0 b h ∧ MLaw (sO s) 1 b h
def MDy (y : DY) (b : Nat) (h : AH) : Prop := ivA h 89 (b + 22) = kI (yD y) ∧ ivA h 89 (b + 23) = kI (yL y) ∧ ivA h 89 (b + 24) = kI (yX y) ∧ (∀ k, k < 4 → ivA h 89 (b + 25 + k) = kI (yB y k))
def MC (s : ST) (y : DY) (h : AH) : Prop := Fix h ∧ WFS s ∧ WFY s y ∧ MSt s 0 h ∧ MDy y 0 h
theorem MC.fix {s : ST} {y : DY} {h : AH} (C : MC s y h) : Fix h := C.1
theorem MC.wf {s : ST} {y : DY} {h : AH} (C : MC s y h) : WFS s := C.2.1
theorem MC.wy {s : ST} {y : DY} {h : AH} (C : MC s y h) : WFY s y := C.2.2.1
theorem MC.i0 {s : ST} {y : DY} {h : AH} (C : MC s y h) : ivA h 89 0 = kI (sL s) := C.2.2.2.1.1
theorem MC.i1 {s : ST} {y : DY} {h : AH} (C : MC s y h) : ivA h 89 1 = kI (sR s) := C.2.2.2.1.2.1
theorem MC.i2 {s : ST} {y : DY} {h : AH} (C : MC s y h) : ivA h 89 2 = kI (sW s) := C.2.2.2.1.2.2.1
theorem MC.i3 {s : ST} {y : DY} {h : AH} (C : MC s y h) : ivA h 89 3 = kI (sH s) := C.2.2.2.1.2.2.2.1
theorem MC.ik {s : ST} {y : DY} {h : AH} (C : MC s y h) {k : Nat} (hk : k < 12) : ivA h 89 (10 + k) = kI (sK s k) := by
  have e := C.2.2.2.1.2.2.2.2.1 k hk
  rw [show 0 + 10 + k = 10 + k by omega] at e
  exact e
theorem MC.lawM {s : ST} {y : DY} {h : AH} (C : MC s y h) : MLaw (sM s) 0 0 h := C.2.2.2.1.2.2.2.2.2.1
theorem MC.lawO {s : ST} {y : DY} {h : AH} (C : MC s y h) : MLaw (sO s) 1 0 h := C.2.2.2.1.2.2.2.2.2.2
theorem MC.i22 {s : ST} {y : DY} {h : AH} (C : MC s y h) : ivA h 89 22 = kI (yD y) := C.2.2.2.2.1
theorem MC.i23 {s : ST} {y : DY} {h : AH} (C : MC s y h) : ivA h 89 23 = kI (yL y) := C.2.2.2.2.2.1
theorem MC.i24 {s : ST} {y : DY} {h : AH} (C : MC s y h) : ivA h 89 24 = kI (yX y) := C.2.2.2.2.2.2.1
theorem MC.ib {s : ST} {y : DY} {h : AH} (C : MC s y h) {k : Nat} (hk : k < 4) : ivA h 89 (25 + k) = kI (yB y k) := by
  have e := C.2.2.2.2.2.2.2 k hk
  rw [show 0 + 25 + k = 25 + k by omega] at e
  exact e
/-- scratch of the reference -/
def IM (a k : Nat) : Prop := a = 93 ∨ a = 94 ∨ (a = 88 ∧ k = 0)
def JM (_ _ : Nat) : Prop := False
theorem nIM {a k : Nat} (h1 : a ≠ 93) (h2 : a ≠ 94) (h3 : a ≠ 88) : ¬ IM a k := by
  unfold IM
  omega
theorem MLaw_ext {code : List Nat} {law b : Nat} {h h' : AH} (H : MLaw code law b h) (e : ∀ k, ivA h' 89 k = ivA h 89 k) : MLaw code law b h' := by
  unfold MLaw
  simp only [e]
  exact H
theorem MSt_ext {s : ST} {b : Nat} {h h' : AH} (H : MSt s b h) (e : ∀ k, ivA h' 89 k = ivA h 89 k) : MSt s b h' := by
  unfold MSt MLaw
  simp only [e]
  exact H
theorem MDy_ext {y : DY} {b : Nat} {h h' : AH} (H : MDy y b h) (e : ∀ k, ivA h' 89 k = ivA h 89 k) : MDy y b h' := by
  unfold MDy
  simp only [e]
  exact H
theorem MC.fr {s : ST} {y : DY} {h h' : AH} (C : MC s y h) (e : Fr IM JM h h') : MC s y h' := by
  have e2 : ∀ k, ivA h' 89 k = ivA h 89 k := fun k => e.2.2.2.2.2.1 89 k (nIM (by omega) (by omega) (by omega))
  exact ⟨e.fix C.1, C.2.1, C.2.2.1, MSt_ext C.2.2.2.1 e2, MDy_ext C.2.2.2.2 e2⟩
theorem bI_iff {p q : Prop} [Decidable p] [Decidable q] (h : p ↔ q) : bI32 p = bI32 q := by
  unfold bI32
  by_cases hp : p
  · rw [if_pos hp, if_pos (h.mp hp)]
  · rw [if_neg hp, if_neg (fun w => hp (h.mpr w))]
theorem bI_k0 (p : Prop) [Decidable p] : (bI32 p = kI 0) ↔ ¬ p := bI_0 p
theorem bI_k1 (p : Prop) [Decidable p] : (bI32 p = kI 1) ↔ p := by
  unfold bI32
  by_cases h : p
  · rw [if_pos h]; exact ⟨fun _ => h, fun _ => rfl⟩
  · rw [if_neg h]; exact ⟨fun q => absurd q (by decide), fun q => absurd q h⟩
theorem tn_add {a b : Int} (ha : 0 ≤ a) (hb : 0 ≤ b) : (a + b).toNat = a.toNat + b.toNat := Int.toNat_add ha hb
theorem tn_mul {a b : Int} (ha : 0 ≤ a) (hb : 0 ≤ b) : (a * b).toNat = a.toNat * b.toNat := Int.toNat_mul ha hb
/-! the reference's leaves -/
theorem M_within_c {d : Nat} (hd : 1 ≤ d) {h : AH} {a b c : Int} (h1 : -9223372036854775808 ≤ a) (h2 : a ≤ 9223372036854775807) (h3 : -9223372036854775808 ≤ b) (h4 : b ≤ 9223372036854775807) (h5 : -9223372036854775808 ≤ c) (h6 : c ≤ 9223372036854775807) {K : Int32 → AH → Prop} : CallI d m_M_within [.long (kJ a), .long (kJ b), .long (kJ c)] h K ↔ K (bI32 (b ≤ a ∧ a ≤ c)) h := by
  refine Ret.I (d := 1) (ret_of (s_M_within_0 ?_)) hd
  simp only [isB_0, isB_1, true_and, decide_eq_true_eq, cmp_lt, cmp_gt, kJ_lt h1 h2 h3 h4, kJ_lt h5 h6 h1 h2]
  unfold bI32
  by_cases q1 : a < b
  · rw [if_pos q1, if_neg (by omega)]
    simp
  · rw [if_neg q1]
    by_cases q2 : c < a
    · rw [if_pos q2, if_neg (by omega)]
      simp
    · rw [if_neg q2, if_pos (by omega)]
      simp
theorem WFS.n1 {s : ST} (w : WFS s) : 1 ≤ sN s := Nat.mul_pos w.1 w.2.1
theorem WFS.n12 {s : ST} (w : WFS s) : sN s ≤ 12 := w.2.2.2.2.1
theorem M_cells_c {s : ST} {y : DY} {d : Nat} {h : AH} (C : MC s y h) (hd : 1 ≤ d) {K : Int32 → AH → Prop} : CallI d m_M_cells [.ref 88] h K ↔ K (kI (sN s)) h := by
  refine Ret.I (d := 1) (ret_of (s_M_cells_0 ?_)) hd
  have F := C.fix
  simp (disch := omega) only [kd_88 F, rv_88_1 F, kd_89 F, ln_89 F, ix_lit, inB_lit, decide_true, Bool.true_or, true_and, Int.reduceToNat, C.i1, C.i2, kI_mul]
  simp [sN]
theorem M_isCell_c {s : ST} {y : DY} {d : Nat} {h : AH} (C : MC s y h) (hd : 2 ≤ d) {c : Int} (h1 : -9223372036854775808 ≤ c) (h2 : c ≤ 9223372036854775807) {K : Int32 → AH → Prop} : CallI d m_M_isCell [.ref 88, .long (kJ c)] h K ↔ K (bI32 (0 ≤ c ∧ c < sN s)) h := by
  refine Ret.I (d := 2) (ret_of (s_M_isCell_0 ?_)) hd
  have F := C.fix
  have n1 := C.wf.n1
  have n2 := C.wf.n12
  simp (disch := omega) only [kd_88 F, decide_true, true_and, M_cells_c C, kI_sub, kI_long, M_within_c, isB_b]
  exact ⟨congrArg (fun x => some (Value.int x)) (bI_iff (by omega)), trivial⟩
theorem M_isHand_c {s : ST} {y : DY} {d : Nat} {h : AH} (C : MC s y h) (hd : 2 ≤ d) {c : Int} (h1 : -9223372036854775808 ≤ c) (h2 : c ≤ 9223372036854775807) {K : Int32 → AH → Prop} : CallI d m_M_isHand [.ref 88, .long (kJ c)] h K ↔ K (bI32 (0 ≤ c ∧ c < sH s)) h := by
  refine Ret.I (d := 2) (ret_of (s_M_isHand_0 ?_)) hd
  have F := C.fix
  have n1 := C.wf.2.2.2.2.2.1
  simp (disch := omega) only [kd_88 F, rv_88_1 F, kd_89 F, ln_89 F, ix_lit, inB_lit, decide_true, Bool.true_or, true_and, Int.reduceToNat, C.i3, kI_sub, kI_long, M_within_c, isB_b]
  exact ⟨congrArg (fun x => some (Value.int x)) (bI_iff (by omega)), trivial⟩
theorem bI_nat (p : Prop) [Decidable p] : bI32 p = kI ((if p then 1 else 0 : Nat) : Int) := by
  unfold bI32
  split <;> rfl
theorem M_bits_c {d : Nat} (hd : 1 ≤ d) {h : AH} {m : Nat} (hm : m < 2147483648) {K : Int32 → AH → Prop} : CallI d m_M_bitsOf [.int (kI m)] h K ↔ K (kI (pop m)) h := by
  refine Ret.I (d := 1) (ret_of (s_M_bitsOf_0 ?_)) hd
  refine down_ind (P := fun k => Safe 0 m_M_bitsOf (4, [.int (kI m), .int (kI (cnt m.testBit k : Nat)), .int (kI k)], [], h) _) 12 ?_ ?_ 0 (by omega)
  · refine s_M_bitsOf_4 ?_
    rw [if_pos (by rw [decide_eq_true_eq]; exact (kI_le (by omega) (by omega) (by omega) (by omega)).mpr (by omega))]
    exact ⟨rfl, rfl⟩
  · intro k hk ih
    refine s_M_bitsOf_4 ?_
    rw [if_neg (by rw [decide_eq_true_eq, kI_le (by omega) (by omega) (by omega) (by omega)]; omega)]
    rw [kI_bit hm (by omega), bI_nat, kI_add, kI_add]
    exact ih
theorem M_everyCell_c {s : ST} {y : DY} {d : Nat} {h : AH} (C : MC s y h) (hd : 2 ≤ d) {K : Int32 → AH → Prop} : CallI d m_M_everyCell [.ref 88] h K ↔ K (kI (2 ^ sN s - 1 : Nat)) h := by
  refine Ret.I (d := 2) (ret_of (s_M_everyCell_0 ?_)) hd
  have F := C.fix
  have n2 := C.wf.n12
  have n3 : 1 ≤ 2 ^ sN s := Nat.one_le_two_pow
  simp (disch := omega) only [kd_88 F, decide_true, true_and, M_cells_c C, kI_shl1, kI_sub]
  rw [Int.natCast_sub n3]
  simp
theorem M_apart_c {d : Nat} (hd : 1 ≤ d) {h : AH} {a b : Nat} (ha : a < 1000) (hb : b < 1000) {K : Int32 → AH → Prop} : CallI d m_M_apart [.int (kI a), .int (kI b)] h K ↔ K (kI (dist a b)) h := by
  refine Ret.I (d := 1) (ret_of (s_M_apart_0 ?_)) hd
  simp (disch := omega) only [decide_eq_true_eq, kI_le, kI_sub]
  unfold dist
  split
  · refine ⟨?_, trivial⟩
    rw [show ((a : Int) - b) = ((a - b + (b - a) : Nat) : Int) by omega]
  · refine ⟨?_, trivial⟩
    rw [show ((b : Int) - a) = ((a - b + (b - a) : Nat) : Int) by omega]
theorem M_farOf_c {s : ST} {y : DY} {d : Nat} {h : AH} (C : MC s y h) (hd : 2 ≤ d) {c l : Nat} (hc : c < 100) (hl : l ≤ 12) {K : Int32 → AH → Prop} : CallI d m_M_farOf [.ref 88, .int (kI c), .int (kI l)] h K ↔ K (kI (farF s c l)) h := by
  refine Ret.I (d := 2) (ret_of (s_M_farOf_0 ?_)) hd
  have F := C.fix
  have w1 := C.wf.2.1
  have w2 := C.wf.2.2.2.1
  have q1 : c / sW s ≤ c := Nat.div_le_self _ _
  have q2 : l / sW s ≤ l := Nat.div_le_self _ _
  have q3 : c % sW s < sW s := Nat.mod_lt _ w1
  have q4 : l % sW s < sW s := Nat.mod_lt _ w1
  have e1 : kI c - kI (c / sW s : Nat) * kI (sW s) = kI (c % sW s : Nat) := by
    rw [kI_mul, kI_sub, Int.natCast_ediv, rem_int]
    rfl
  have e2 : kI l - kI (l / sW s : Nat) * kI (sW s) = kI (l % sW s : Nat) := by
    rw [kI_mul, kI_sub, Int.natCast_ediv, rem_int]
    rfl
  have e3 : kI c / kI (sW s) = kI (c / sW s : Nat) := kI_ndiv (by omega) (by omega) (by omega)
  have e4 : kI l / kI (sW s) = kI (l / sW s : Nat) := kI_ndiv (by omega) (by omega) (by omega)
  have e5 : ¬ (sW s : Int) = 0 := by omega
  simp (disch := omega) only [kd_88 F, rv_88_1 F, kd_89 F, ln_89 F, ix_lit, inB_lit, decide_true, Bool.true_or, true_and, Int.reduceToNat, C.i2, e1, e2, e3, e4, M_apart_c, z0, kI_inj, decide_eq_true_eq, Bool.not_eq_true', decide_eq_false_iff_not, e5, not_false_eq_true, kI_add, and_true]
  unfold farF
  by_cases q : l = 12
  · rw [if_neg (by omega), if_pos q]
    rfl
  · rw [if_pos (by omega), if_neg q]
    simp
