/-! changes: the fewest changes of hand -/
def omin : Option Nat → Option Nat → Option Nat
  | none, b => b
  | some a, none => some a
  | some a, some b => some (if b < a then b else a)
def m4 (f : Nat → Option Nat) : Nat → Option Nat
  | 0 => none
  | k + 1 => omin (m4 f k) (f k)
def cst (hd : Int) (g : Nat) : Nat := if hd = -1 ∨ hd = g then 0 else 1
def adO (o : Option Nat) (c : Nat) : Option Nat := match o with
  | none => none
  | some x => some (x + c)
def aftO (f : Nat → Option Nat) (hd : Int) : Option Nat := m4 (fun g => adO (f g) (cst hd g)) 4
def fo (ab : Nat → Nat) (n : Nat) : Nat → Nat → Option Nat
  | 0, h => if (ab (n - 1)).testBit h = true then some 0 else none
  | j + 1, h => if (ab (n - 1 - (j + 1))).testBit h = true then aftO (fo ab n j) h else none
def eB (B : Nat) (o : Option Nat) : Nat := match o with
  | none => B
  | some x => x
def LeO (o : Option Nat) (b : Nat) : Prop := ∀ x, o = some x → x ≤ b
theorem m4_le {f : Nat → Option Nat} {b : Nat} (H : ∀ k, LeO (f k) b) : ∀ k, LeO (m4 f k) b
  | 0 => fun x e => by cases e
  | k + 1 => by
    have h1 := m4_le H k
    have h2 := H k
    unfold m4
    intro x e
    cases e1 : m4 f k with
    | none => rw [e1] at e; exact h2 x e
    | some a =>
      cases e2 : f k with
      | none => rw [e1, e2] at e; cases e; exact h1 _ e1
      | some c =>
        rw [e1, e2] at e
        have l1 := h1 _ e1
        have l2 := h2 _ e2
        have ee : (if c < a then c else a) = x := Option.some.inj e
        rw [← ee]
        split <;> omega
theorem cst_le (hd : Int) (g : Nat) : cst hd g ≤ 1 := by unfold cst; split <;> omega
theorem aftO_le {f : Nat → Option Nat} {b : Nat} (H : ∀ k, LeO (f k) b) (hd : Int) : LeO (aftO f hd) (b + 1) := by
  refine m4_le (fun k x e => ?_) 4
  have c1 := cst_le hd k
  unfold adO at e
  cases e1 : f k with
  | none => rw [e1] at e; cases e
  | some a =>
    rw [e1] at e
    have := H k a e1
    have ee : a + cst hd k = x := Option.some.inj e
    omega
theorem fo_le (ab : Nat → Nat) (n : Nat) : ∀ j h, LeO (fo ab n j h) j
  | 0, h => by
    intro x e
    unfold fo at e
    split at e
    · cases e; omega
    · cases e
  | j + 1, h => by
    intro x e
    unfold fo at e
    split at e
    · exact aftO_le (fun k => fo_le ab n j k) _ x e
    · cases e
theorem eB_le {B : Nat} {o : Option Nat} {b : Nat} (H : LeO o b) (hb : b ≤ B) : eB B o ≤ B := by
  cases o with
  | none => exact Nat.le_refl _
  | some x => have := H x rfl; show x ≤ B; omega
theorem emb_min {B : Nat} {a b : Option Nat} {c l : Nat} (ha : LeO a l) (hb : LeO b l) (hl : l + 10 < B) (hc : c ≤ 1) : (if eB B b + c < eB B a then eB B b + c else eB B a) = eB B (omin a (adO b c)) := by
  cases a with
  | none =>
    cases b with
    | none => show (if B + c < B then B + c else B) = B; rw [if_neg (by omega)]
    | some y =>
      have := hb y rfl
      show (if y + c < B then y + c else B) = y + c
      rw [if_pos (by omega)]
  | some x =>
    have h1 := ha x rfl
    cases b with
    | none => show (if B + c < x then B + c else x) = x; rw [if_neg (by omega)]
    | some y => rfl
theorem Se_changesBy_c {d : Nat} (hd : 1 ≤ d) {h : AH} (F : Fix h) {i g : Nat} {hand : Int} (hi : i < 12) (hg : g < 4) (a1 : -1 ≤ hand) (a2 : hand ≤ 3) {z : Nat} (hz : z ≤ 1048576) (e : ivA h 71 (i * 4 + g) = kI z) {K : Int32 → AH → Prop} : CallI d m_Se_changesBy [.ref 67, .int (kI i), .int (kI hand), .int (kI g)] h K ↔ K (kI ((z + cst hand g : Nat) : Int)) h := by
  refine Ret.I (d := 1) (ret_of (s_Se_changesBy_0 ?_)) hd
  have ei : ix (kI ((i : Int) * 4 + g)) = i * 4 + g := by rw [ix_lit (by omega) (by omega)]; omega
  have eb : inB (kI ((i : Int) * 4 + g)) 48 = true := inB_lit (by omega) (by omega) (by omega)
  have fin : Safe 0 m_Se_changesBy (20, [unV, unV, unV, unV], [.int (kI z)], h) (fun v k => v = some (.int (kI ((z + 0 : Nat) : Int))) ∧ k = h) := by
    refine s_Se_changesBy_20 ?_
    rw [kI_add]
    exact ⟨rfl, rfl⟩
  simp (disch := omega) only [kd_67 F, rv_67_2 F, kd_71 F, ln_71 F, ix_lit, inB_lit, decide_true, Bool.true_or, Bool.or_true, true_and, and_true, kI_add, kI_sub, kI_mul, tn_add, Int.toNat_natCast, Int.reduceToNat, kI_le, kI_lt, kI_inj, decide_eq_true_eq, Bool.not_eq_true', decide_eq_false_iff_not, not_true_eq_false, not_false_eq_true, Classical.not_not, Bool.false_eq_true, if_true, if_false, z0, bI_k0, bI_k1, isB_b, isB_0, isB_1, kI_long, kd_stI, ln_stI, rv_stI, ei, eb, e]
  unfold cst
  by_cases q : hand = -1
  · rw [if_pos q, if_pos (Or.inl q)]
    exact fin
  · rw [if_neg q]
    by_cases q2 : hand = (g : Int)
    · rw [if_neg (fun w => w q2), if_pos (Or.inr q2)]
      exact fin
    · rw [if_pos q2, if_neg (fun w => w.elim q q2)]
      (all_goals first | exact ⟨rfl, rfl⟩ | exact ⟨rfl, trivial⟩ | rfl | trivial)
theorem Se_fewestAfter_c {d : Nat} (hd : 2 ≤ d) {h : AH} (F : Fix h) {i : Nat} {hand : Int} (hi : i < 12) (a1 : -1 ≤ hand) (a2 : hand ≤ 3) {f : Nat → Option Nat} (hf : ∀ g, LeO (f g) 20) (e : ∀ g, g < 4 → ivA h 71 (i * 4 + g) = kI (eB 1048576 (f g))) {K : Int32 → AH → Prop} : CallI d m_Se_fewestAfter [.ref 67, .int (kI i), .int (kI hand)] h K ↔ K (kI (eB 1048576 (aftO f hand))) h := by
  refine Ret.I (d := 2) (ret_of (s_Se_fewestAfter_0 ?_)) hd
  have hF : ∀ g, LeO (adO (f g) (cst hand g)) 21 := fun g x ex => by
    have c1 := cst_le hand g
    unfold adO at ex
    cases e1 : f g with
    | none => rw [e1] at ex; cases ex
    | some a =>
      rw [e1] at ex
      have := hf g a e1
      have ee : a + cst hand g = x := Option.some.inj ex
      omega
  suffices H : ∀ k, k ≤ 4 → Safe 1 m_Se_fewestAfter (6, [.ref 67, .int (kI i), .int (kI hand), .int (kI (eB 1048576 (m4 (fun g => adO (f g) (cst hand g)) k))), .int (kI k)], [], h) (fun v k => v = some (.int (kI (eB 1048576 (aftO f hand)))) ∧ k = h) by
    exact H 0 (by omega)
  refine down_ind 4 ?_ ?_
  · refine s_Se_fewestAfter_6 ?_
    simp (disch := omega) only [ix_lit, inB_lit, decide_true, Bool.true_or, Bool.or_true, true_and, and_true, kI_add, kI_sub, kI_mul, tn_add, Int.toNat_natCast, Int.reduceToNat, kI_le, kI_lt, kI_inj, decide_eq_true_eq, Bool.not_eq_true', decide_eq_false_iff_not, not_true_eq_false, not_false_eq_true, Classical.not_not, Bool.false_eq_true, if_true, if_false, z0, bI_k0, bI_k1, isB_b, isB_0, isB_1, kI_long, kd_stI, ln_stI, rv_stI, Int.cast_ofNat_Int, Int.le_refl]
    (all_goals first | exact ⟨rfl, rfl⟩ | exact ⟨rfl, trivial⟩ | rfl | trivial)
  · intro k hk ih
    have z1 : ¬ (4 : Int) ≤ (k : Int) := by omega
    have l1 := eB_le (hf k) (show 20 ≤ 1048576 by omega)
    have l2 := eB_le (m4_le hF k) (show 21 ≤ 1048576 by omega)
    have c1 := cst_le hand k
    have em := emb_min (B := 1048576) (m4_le hF k) (b := f k) (fun x ex => Nat.le_trans (hf k x ex) (by omega)) (by omega) c1
    have e2 : m4 (fun g => adO (f g) (cst hand g)) (k + 1) = omin (m4 (fun g => adO (f g) (cst hand g)) k) (adO (f k) (cst hand k)) := rfl
    rw [e2, ← em] at ih
    refine s_Se_fewestAfter_6 ?_
    simp (disch := omega) only [kd_67 F, ix_lit, inB_lit, decide_true, Bool.true_or, Bool.or_true, true_and, and_true, kI_add, kI_sub, kI_mul, tn_add, Int.toNat_natCast, Int.reduceToNat, kI_le, kI_lt, kI_inj, decide_eq_true_eq, Bool.not_eq_true', decide_eq_false_iff_not, not_true_eq_false, not_false_eq_true, Classical.not_not, Bool.false_eq_true, if_true, if_false, z0, bI_k0, bI_k1, isB_b, isB_0, isB_1, kI_long, kd_stI, ln_stI, rv_stI, z1, Se_changesBy_c (show 1 ≤ 1 by omega) F hi hk a1 a2 l1 (e k hk)]
    have lt : ((eB 1048576 (f k) + cst hand k : Nat) : Int) < (eB 1048576 (m4 (fun g => adO (f g) (cst hand g)) k) : Int) ↔ eB 1048576 (f k) + cst hand k < eB 1048576 (m4 (fun g => adO (f g) (cst hand g)) k) := by omega
    by_cases q : eB 1048576 (f k) + cst hand k < eB 1048576 (m4 (fun g => adO (f g) (cst hand g)) k)
    · rw [if_pos q] at ih
      rw [if_pos (lt.mpr q)]
      exact ih
    · rw [if_neg q] at ih
      rw [if_neg (fun w => q (lt.mp w))]
      exact ih
/-- the first hand that goes on by the fewest changes -/
def tst (f : Nat → Option Nat) (hd : Int) (g : Nat) : Bool := adO (f g) (cst hd g) == aftO f hd
def fstD (p : Nat → Bool) (old : Nat) : Nat := if p 0 = true then 0 else if p 1 = true then 1 else if p 2 = true then 2 else if p 3 = true then 3 else old
def resD (p : Nat → Bool) : Nat → Nat → Nat
  | 0, cur => cur
  | k + 1, cur => resD p k (if p k = true then k else cur)
theorem resD_4 (p : Nat → Bool) (old : Nat) : resD p 4 old = fstD p old := by
  show (if p 0 = true then 0 else if p 1 = true then 1 else if p 2 = true then 2 else if p 3 = true then 3 else old) = _
  rfl
theorem m4_ex {F : Nat → Option Nat} {x : Nat} : ∀ {k : Nat}, m4 F k = some x → ∃ g, g < k ∧ F g = some x
  | 0, e => by cases e
  | k + 1, e => by
    unfold m4 at e
    cases e1 : m4 F k with
    | none => rw [e1] at e; exact ⟨k, by omega, e⟩
    | some a =>
      cases e2 : F k with
      | none =>
        rw [e1, e2] at e
        cases e
        obtain ⟨g, h1, h2⟩ := m4_ex e1
        exact ⟨g, by omega, h2⟩
      | some c =>
        rw [e1, e2] at e
        have ee : (if c < a then c else a) = x := Option.some.inj e
        by_cases q : c < a
        · rw [if_pos q] at ee
          exact ⟨k, by omega, by rw [e2, ee]⟩
        · rw [if_neg q] at ee
          obtain ⟨g, h1, h2⟩ := m4_ex e1
          exact ⟨g, by omega, by rw [h2, ee]⟩
theorem fstD_of {p : Nat → Bool} {n : Nat} (old : Nat) (hn : n < 4) (h : p n = true) (lo : ∀ j, j < n → p j = false) : fstD p old = n := by
  unfold fstD
  have e : n = 0 ∨ n = 1 ∨ n = 2 ∨ n = 3 := by omega
  rcases e with rfl | rfl | rfl | rfl
  · rw [if_pos h]
  · rw [if_neg (by rw [lo 0 (by omega)]; simp), if_pos h]
  · rw [if_neg (by rw [lo 0 (by omega)]; simp), if_neg (by rw [lo 1 (by omega)]; simp), if_pos h]
  · rw [if_neg (by rw [lo 0 (by omega)]; simp), if_neg (by rw [lo 1 (by omega)]; simp), if_neg (by rw [lo 2 (by omega)]; simp), if_pos h]
theorem fstD_is {p : Nat → Bool} {g : Nat} (old : Nat) (hg : g < 4) (h : p g = true) : fstD p old < 4 ∧ p (fstD p old) = true ∧ ∀ j, j < fstD p old → p j = false := by
  unfold fstD
  by_cases q0 : p 0 = true
  · rw [if_pos q0]; exact ⟨by omega, q0, fun j hj => by omega⟩
  · rw [if_neg q0]
    have f0 : p 0 = false := by simpa using q0
    by_cases q1 : p 1 = true
    · rw [if_pos q1]; exact ⟨by omega, q1, fun j hj => by rw [show j = 0 by omega]; exact f0⟩
    · rw [if_neg q1]
      have f1 : p 1 = false := by simpa using q1
      by_cases q2 : p 2 = true
      · rw [if_pos q2]
        refine ⟨by omega, q2, fun j hj => ?_⟩
        have e : j = 0 ∨ j = 1 := by omega
        rcases e with rfl | rfl
        · exact f0
        · exact f1
      · rw [if_neg q2]
        have f2 : p 2 = false := by simpa using q2
        have e : g = 0 ∨ g = 1 ∨ g = 2 ∨ g = 3 := by omega
        have q3 : p 3 = true := by
          rcases e with rfl | rfl | rfl | rfl
          · exact absurd h q0
          · exact absurd h q1
          · exact absurd h q2
          · exact h
        rw [if_pos q3]
        refine ⟨by omega, q3, fun j hj => ?_⟩
        have e : j = 0 ∨ j = 1 ∨ j = 2 := by omega
        rcases e with rfl | rfl | rfl
        · exact f0
        · exact f1
        · exact f2
def chF (ab : Nat → Nat) (n : Nat) : Nat → Nat
  | 0 => fstD (tst (fo ab n (n - 1)) (-1)) 0
  | i + 1 => fstD (tst (fo ab n (n - 1 - (i + 1))) (chF ab n i)) 0
theorem tst_iff {f : Nat → Option Nat} {hd : Int} {g : Nat} : tst f hd g = true ↔ adO (f g) (cst hd g) = aftO f hd := by unfold tst; exact beq_iff_eq
theorem tst_ex {f : Nat → Option Nat} {hd : Int} {x : Nat} (e : aftO f hd = some x) : ∃ g, g < 4 ∧ tst f hd g = true := by
  obtain ⟨g, h1, h2⟩ := m4_ex e
  exact ⟨g, h1, tst_iff.mpr (h2.trans e.symm)⟩
theorem adO_some {o : Option Nat} {c x : Nat} (e : adO o c = some x) : ∃ z, o = some z ∧ z + c = x := by
  cases o with
  | none => cases e
  | some z => exact ⟨z, rfl, Option.some.inj e⟩
/-- the hands chosen are able, and by each the rest goes on -/
theorem chF_ok {ab : Nat → Nat} {n x : Nat} (hn : 1 ≤ n) (e : aftO (fo ab n (n - 1)) (-1) = some x) : ∀ i, i < n → chF ab n i < 4 ∧ ∃ z, fo ab n (n - 1 - i) (chF ab n i) = some z
  | 0, _ => by
    obtain ⟨g, h1, h2⟩ := tst_ex e
    have h3 := fstD_is 0 h1 h2
    refine ⟨h3.1, ?_⟩
    have h4 := tst_iff.mp h3.2.1
    rw [e] at h4
    obtain ⟨z, hz, _⟩ := adO_some h4
    exact ⟨z, hz⟩
  | i + 1, hi => by
    obtain ⟨h1, z, hz⟩ := chF_ok hn e i (by omega)
    rw [show n - 1 - i = (n - 1 - (i + 1)) + 1 by omega] at hz
    unfold fo at hz
    split at hz
    · obtain ⟨g, g1, g2⟩ := tst_ex hz
      have h3 := fstD_is 0 g1 g2
      refine ⟨h3.1, ?_⟩
      have h4 := tst_iff.mp h3.2.1
      rw [hz] at h4
      obtain ⟨z2, hz2, _⟩ := adO_some h4
      exact ⟨z2, hz2⟩
    · cases hz
theorem chF_nx {ab : Nat → Nat} {n x i : Nat} (hn : 1 ≤ n) (e : aftO (fo ab n (n - 1)) (-1) = some x) (hi : i + 1 < n) : aftO (fo ab n (n - 1 - (i + 1))) (chF ab n i) = fo ab n (n - 1 - i) (chF ab n i) := by
  obtain ⟨h1, z, hz⟩ := chF_ok hn e i (by omega)
  have e2 : n - 1 - i = (n - 1 - (i + 1)) + 1 := by omega
  rw [e2] at hz ⊢
  have e3 : fo ab n (n - 1 - (i + 1) + 1) (chF ab n i) = if (ab (n - 1 - (n - 1 - (i + 1) + 1))).testBit (chF ab n i) = true then aftO (fo ab n (n - 1 - (i + 1))) (chF ab n i) else none := rfl
  rw [e3] at hz ⊢
  split at hz
  · rename_i q
    rw [if_pos q]
  · cases hz
/-- eB tells apart what is small from what is none -/
theorem eB_inj {B : Nat} {a b : Option Nat} {c l : Nat} (ha : LeO a l) {x : Nat} (hb : b = some x) (hx : x ≤ l) (hl : l + 10 < B) (hc : c ≤ 1) : (eB B a + c = eB B b) ↔ adO a c = b := by
  subst hb
  cases a with
  | none =>
    constructor
    · intro w
      have : B + c = x := w
      omega
    · intro w; cases w
  | some y =>
    constructor
    · intro w
      have : y + c = x := w
      show some (y + c) = some x
      rw [this]
    · intro w; exact Option.some.inj w
/-- the rows of the class's table that are filled -/
def Filx (ab : Nat → Nat) (n k : Nat) (h : AH) : Prop := ∀ i, k ≤ i → i < n → ∀ g, g < 4 → ivA h 71 (i * 4 + g) = kI (eB 1048576 (fo ab n (n - 1 - i) g))
theorem Se_choose_g {T : Nat → Nat} {h : AH} (F : Fix h) {ab : Nat → Nat} {n x : Nat} (hn : 1 ≤ n) (n12 : n ≤ 12) (L : Filx ab n 0 h) (e : aftO (fo ab n (n - 1)) (-1) = some x) : GV 3 m_Se_chooseAuthors [.ref 67, .int (kI n)] h (fun h' => Fr (fun a _ => a = 72) JM h h' ∧ ∀ i, i < n → ivA h' 72 i = kI (chF ab n i)) := by
  refine GVo (s_Se_chooseAuthors_0 ?_)
  have key : ∀ k, k ≤ n → ∀ (h2 : AH) (hand : Int), Fr (fun a _ => a = 72) JM h h2 → (∀ i, i < k → ivA h2 72 i = kI (chF ab n i)) → hand = (if k = 0 then -1 else (chF ab n (k - 1) : Int)) → Safe 2 m_Se_chooseAuthors (4, [.ref 67, .int (kI n), .int (kI hand), .int (kI k), unV, unV], [], h2) (fun v h' => Eqv v none ∧ Fr (fun a _ => a = 72) JM h h' ∧ ∀ i, i < n → ivA h' 72 i = kI (chF ab n i)) := by
    refine down_ind n ?_ ?_
    · intro h2 hand e2 H _
      refine s_Se_chooseAuthors_4 ?_
      simp (disch := omega) only [ix_lit, inB_lit, decide_true, Bool.true_or, Bool.or_true, true_and, and_true, kI_add, kI_sub, kI_mul, tn_add, Int.toNat_natCast, Int.reduceToNat, kI_le, kI_lt, kI_inj, decide_eq_true_eq, Bool.not_eq_true', decide_eq_false_iff_not, not_true_eq_false, not_false_eq_true, Classical.not_not, Bool.false_eq_true, if_true, if_false, z0, bI_k0, bI_k1, isB_b, isB_0, isB_1, kI_long, kd_stI, ln_stI, rv_stI, Int.le_refl]
      exact ⟨rfl, e2, H⟩
    · intro k hk ih h2 hand e2 H hh
      have F2 := e2.fix F
      have z1 : ¬ (n : Int) ≤ (k : Int) := by omega
      have hb : -1 ≤ hand ∧ hand ≤ 3 := by
        rw [hh]
        split
        · omega
        · have := (chF_ok hn e (k - 1) (by omega)).1
          omega
      have fl : ∀ g, LeO (fo ab n (n - 1 - k) g) 20 := fun g y ey => Nat.le_trans (fo_le ab n _ g y ey) (by omega)
      have row : ∀ h3, Fr (fun a _ => a = 72) JM h h3 → ∀ g, g < 4 → ivA h3 71 (k * 4 + g) = kI (eB 1048576 (fo ab n (n - 1 - k) g)) := fun h3 e3 g hg => by
        rw [e3.2.2.2.2.2.1 _ _ (by omega)]
        exact L k (by omega) hk g hg
      have fin : ∃ z, aftO (fo ab n (n - 1 - k)) hand = some z := by
        rw [hh]
        by_cases q : k = 0
        · rw [if_pos q, q]
          exact ⟨x, e⟩
        · rw [if_neg q]
          have := chF_nx (i := k - 1) hn e (by omega)
          rw [show k - 1 + 1 = k by omega] at this
          rw [this]
          exact (chF_ok hn e (k - 1) (by omega)).2
      obtain ⟨z, hz⟩ := fin
      have chk : chF ab n k = fstD (tst (fo ab n (n - 1 - k)) hand) 0 := by
        rw [hh]
        cases k with
        | zero => rfl
        | succ k => rw [if_neg (by omega)]; rfl
      have zl : z ≤ 21 := aftO_le fl hand z hz
      refine s_Se_chooseAuthors_4 ?_
      simp (disch := omega) only [kd_67 F2, ix_lit, inB_lit, decide_true, Bool.true_or, Bool.or_true, true_and, and_true, kI_add, kI_sub, kI_mul, tn_add, Int.toNat_natCast, Int.reduceToNat, kI_le, kI_lt, kI_inj, decide_eq_true_eq, Bool.not_eq_true', decide_eq_false_iff_not, not_true_eq_false, not_false_eq_true, Classical.not_not, Bool.false_eq_true, if_true, if_false, z0, bI_k0, bI_k1, isB_b, isB_0, isB_1, kI_long, kd_stI, ln_stI, rv_stI, z1, Se_fewestAfter_c (show 2 ≤ 2 by omega) F2 (show k < 12 by omega) hb.1 hb.2 fl (row h2 e2)]
      suffices H2 : ∀ j, j ≤ 4 → ∀ (h3 : AH) (cur : Nat), Fr (fun a _ => a = 72) JM h h3 → (∀ i, i < k → ivA h3 72 i = kI (chF ab n i)) → (j < 4 → ((∃ g, j ≤ g ∧ g < 4 ∧ tst (fo ab n (n - 1 - k)) hand g = true) → ivA h3 72 k = kI cur)) → resD (tst (fo ab n (n - 1 - k)) hand) j cur = fstD (tst (fo ab n (n - 1 - k)) hand) 0 → Safe 2 m_Se_chooseAuthors (20, [.ref 67, .int (kI n), .int (kI hand), .int (kI k), .int (kI (eB 1048576 (aftO (fo ab n (n - 1 - k)) hand))), .int (kI ((j : Int) - 1))], [], h3) (fun v h' => Eqv v none ∧ Fr (fun a _ => a = 72) JM h h' ∧ ∀ i, i < n → ivA h' 72 i = kI (chF ab n i)) by
        exact H2 4 (by omega) h2 0 e2 H (fun w => by omega) (resD_4 _ _)
      intro j
      induction j with
      | zero =>
        intro _ h3 cur e3 H3 HK HR
        have F3 := e3.fix F
        obtain ⟨g, g1, g2⟩ := tst_ex hz
        have hc := HK (by omega) ⟨g, by omega, g1, g2⟩
        have ec : cur = chF ab n k := by rw [chk, ← HR]; rfl
        rw [ec] at hc
        refine s_Se_chooseAuthors_20 ?_
        have zz : ((0 : Nat) : Int) - 1 < 0 := by omega
        simp (disch := omega) only [kd_67 F3, rv_67_3 F3, kd_72 F3, ln_72 F3, ix_lit, inB_lit, decide_true, Bool.true_or, Bool.or_true, true_and, and_true, kI_add, kI_sub, kI_mul, tn_add, Int.toNat_natCast, Int.reduceToNat, kI_le, kI_lt, kI_inj, decide_eq_true_eq, Bool.not_eq_true', decide_eq_false_iff_not, not_true_eq_false, not_false_eq_true, Classical.not_not, Bool.false_eq_true, if_true, if_false, z0, bI_k0, bI_k1, isB_b, isB_0, isB_1, kI_long, kd_stI, ln_stI, rv_stI, zz, hc]
        refine ih h3 _ e3 (fun i hi => ?_) ?_
        · by_cases q : i = k
          · rw [q]; exact hc
          · exact H3 i (by omega)
        · rw [if_neg (by omega)]
          rfl
      | succ j ihj =>
        intro hj h3 cur e3 H3 HK HR
        have F3 := e3.fix F
        have lj := eB_le (fl j) (show 20 ≤ 1048576 by omega)
        have lz := eB_le (aftO_le fl hand) (show 20 + 1 ≤ 1048576 by omega)
        have cj := cst_le hand j
        have ej : ((j + 1 : Nat) : Int) - 1 = (j : Int) := by omega
        have z2 : ¬ (j : Int) < 0 := by omega
        have inj := eB_inj (B := 1048576) (a := fo ab n (n - 1 - k) j) (b := aftO (fo ab n (n - 1 - k)) hand) (c := cst hand j) (l := 21) (fun y ey => Nat.le_trans (fl j y ey) (by omega)) hz zl (by omega) cj
        have HR' : resD (tst (fo ab n (n - 1 - k)) hand) j (if tst (fo ab n (n - 1 - k)) hand j = true then j else cur) = fstD (tst (fo ab n (n - 1 - k)) hand) 0 := HR
        refine s_Se_chooseAuthors_20 ?_
        rw [ej]
        have ej2 : kI (j : Int) + kI (-1) = kI ((j : Int) - 1) := by rw [kI_add]; rfl
        by_cases q : tst (fo ab n (n - 1 - k)) hand j = true
        · rw [if_pos q] at HR'
          have qn : ((eB 1048576 (fo ab n (n - 1 - k) j) + cst hand j : Nat) : Int) = (eB 1048576 (aftO (fo ab n (n - 1 - k)) hand) : Int) := by rw [inj.mpr (tst_iff.mp q)]
          simp (disch := omega) only [kd_67 F3, rv_67_3 F3, kd_72 F3, ln_72 F3, z0, kI_lt, kI_inj, z2, decide_eq_true_eq, decide_true, true_and, Bool.not_eq_true', decide_eq_false_iff_not, not_true_eq_false, if_false, Se_changesBy_c (show 1 ≤ 2 by omega) F3 (show k < 12 by omega) (show j < 4 by omega) hb.1 hb.2 lj (row h3 e3 j (by omega)), qn, inB_lit, ix_lit, Int.toNat_natCast, ej2]
          refine ihj (by omega) (stI h3 72 k (kI j)) j (e3.stI rfl _) (fun i hi => ?_) (fun _ _ => ?_) HR'
          · rw [iv_stI, if_neg (by omega)]; exact H3 i hi
          · rw [iv_stI, if_pos ⟨rfl, rfl⟩]
        · rw [if_neg q] at HR'
          have qn : ¬ ((eB 1048576 (fo ab n (n - 1 - k) j) + cst hand j : Nat) : Int) = (eB 1048576 (aftO (fo ab n (n - 1 - k)) hand) : Int) := fun w => q (tst_iff.mpr (inj.mp (by omega)))
          simp (disch := omega) only [kd_67 F3, z0, kI_lt, kI_inj, z2, decide_eq_true_eq, decide_true, true_and, Bool.not_eq_true', decide_eq_false_iff_not, not_false_eq_true, if_true, if_false, Se_changesBy_c (show 1 ≤ 2 by omega) F3 (show k < 12 by omega) (show j < 4 by omega) hb.1 hb.2 lj (row h3 e3 j (by omega)), qn, ej2]
          refine ihj (by omega) h3 cur e3 H3 (fun _ w => ?_) HR'
          obtain ⟨g, g1, g2, g3⟩ := w
          by_cases qg : g = j
          · rw [qg] at g3; exact absurd g3 q
          · exact HK (by omega) ⟨g, by omega, g2, g3⟩
  exact key 0 (by omega) h (-1) (Fr_rfl _ _ _) (fun i hi => by omega) rfl
