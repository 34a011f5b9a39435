/-! heaps as tables, for the making of all things -/
abbrev TCe : Type := Nat × Nat × List (Nat × Int) × List (Nat × Nat)
abbrev TBe : Type := List TCe
def lkI : List (Nat × Int) → Nat → Int
  | [], _ => 0
  | (j, v) :: r, k => if k = j then v else lkI r k
def lkR : List (Nat × Nat) → Nat → Nat
  | [], _ => 0
  | (j, v) :: r, k => if k = j then v else lkR r k
def tcl (t : TBe) (x : Nat) : TCe := t.getD (x - 1) (0, 0, [], [])
def tNw (t : TBe) (k n : Nat) : TBe := t ++ [(k, n, [], [])]
def tU (t : TBe) (x : Nat) (c : TCe) : TBe := t.set (x - 1) c
def tI (t : TBe) (x k : Nat) (i : Int) : TBe := tU t x ((tcl t x).1, (tcl t x).2.1, (k, i) :: (tcl t x).2.2.1, (tcl t x).2.2.2)
def tR (t : TBe) (x k r : Nat) : TBe := tU t x ((tcl t x).1, (tcl t x).2.1, (tcl t x).2.2.1, (k, r) :: (tcl t x).2.2.2)
def HT (O : AH) (t : TBe) (u : Nat) (h : AH) : Prop := (szA h = t.length) ∧ (usA h = u) ∧ (t.length < 1000) ∧ (∀ x, 1 ≤ x → x ≤ t.length → kdA h x = (tcl t x).1 ∧ lnA h x = (tcl t x).2.1 ∧ (∀ k, ivA h x k = kI (lkI (tcl t x).2.2.1 k)) ∧ ∀ k, rvA h x k = lkR (tcl t x).2.2.2 k) ∧ (∀ x, 1000000 ≤ x → kdA h x = kdA O x ∧ lnA h x = lnA O x ∧ (∀ k, ivA h x k = ivA O x k) ∧ ∀ k, rvA h x k = rvA O x k)
theorem HT.sz {O : AH} {t : TBe} {u : Nat} {h : AH} (C : HT O t u h) : szA h = t.length := C.1
theorem HT.us {O : AH} {t : TBe} {u : Nat} {h : AH} (C : HT O t u h) : usA h = u := C.2.1
theorem HT.le {O : AH} {t : TBe} {u : Nat} {h : AH} (C : HT O t u h) : t.length < 1000 := C.2.2.1
theorem HT.c {O : AH} {t : TBe} {u : Nat} {h : AH} (C : HT O t u h) : ∀ x, 1 ≤ x → x ≤ t.length → kdA h x = (tcl t x).1 ∧ lnA h x = (tcl t x).2.1 ∧ (∀ k, ivA h x k = kI (lkI (tcl t x).2.2.1 k)) ∧ ∀ k, rvA h x k = lkR (tcl t x).2.2.2 k := C.2.2.2.1
theorem HT.o {O : AH} {t : TBe} {u : Nat} {h : AH} (C : HT O t u h) : ∀ x, 1000000 ≤ x → kdA h x = kdA O x ∧ lnA h x = lnA O x ∧ (∀ k, ivA h x k = ivA O x k) ∧ ∀ k, rvA h x k = rvA O x k := C.2.2.2.2
theorem len_tNw (t : TBe) (k n : Nat) : (tNw t k n).length = t.length + 1 := by unfold tNw; simp
theorem len_tI (t : TBe) (x k : Nat) (i : Int) : (tI t x k i).length = t.length := by unfold tI tU; simp
theorem len_tR (t : TBe) (x k r : Nat) : (tR t x k r).length = t.length := by unfold tR tU; simp
theorem tcl_tNw {t : TBe} {k n x : Nat} (h1 : 1 ≤ x) (h2 : x ≤ t.length) : tcl (tNw t k n) x = tcl t x := by
  unfold tcl tNw
  rw [List.getD_eq_getElem?_getD, List.getElem?_append_left (by omega), ← List.getD_eq_getElem?_getD]
theorem tcl_tNw' (t : TBe) (k n : Nat) : tcl (tNw t k n) (t.length + 1) = (k, n, [], []) := by
  unfold tcl tNw
  rw [Nat.add_sub_cancel, List.getD_eq_getElem?_getD, List.getElem?_append_right (Nat.le_refl _), Nat.sub_self]
  rfl
theorem tcl_tU {t : TBe} {x y : Nat} {c : TCe} (h1 : 1 ≤ x) (h2 : x ≤ t.length) (h3 : 1 ≤ y) : tcl (tU t x c) y = if y = x then c else tcl t y := by
  unfold tcl tU
  rw [List.getD_eq_getElem?_getD, List.getElem?_set]
  by_cases q : y = x
  · rw [if_pos (by omega), if_pos q, if_pos (by omega)]
    rfl
  · rw [if_neg (by omega), if_neg q, List.getD_eq_getElem?_getD]
theorem HT.nw {O : AH} {t : TBe} {u : Nat} {h : AH} (H : HT O t u h) (k n : Nat) (l : t.length < 999) : HT O (tNw t k n) (u + n) (nwA h k n) := by
  have sz := H.sz
  refine ⟨by rw [sz_nw, len_tNw, sz], by rw [us_nw, H.us], by rw [len_tNw]; omega, fun x h1 h2 => ?_, fun x hx => ?_⟩
  · rw [len_tNw] at h2
    by_cases q : x = szA h + 1
    · have e : x = t.length + 1 := by omega
      rw [kd_nw, ln_nw, if_pos q, if_pos q, e, tcl_tNw']
      exact ⟨rfl, rfl, fun k => by rw [iv_nw, if_pos (by omega)]; rfl, fun k => by rw [rv_nw, if_pos (by omega)]; rfl⟩
    · have c := H.c x h1 (by omega)
      rw [kd_nw, ln_nw, if_neg q, if_neg q, tcl_tNw h1 (by omega)]
      exact ⟨c.1, c.2.1, fun k => by rw [iv_nw, if_neg q]; exact c.2.2.1 k, fun k => by rw [rv_nw, if_neg q]; exact c.2.2.2 k⟩
  · have o := H.o x hx
    have q : x ≠ szA h + 1 := by omega
    rw [kd_nw, ln_nw, if_neg q, if_neg q]
    exact ⟨o.1, o.2.1, fun k => by rw [iv_nw, if_neg q]; exact o.2.2.1 k, fun k => by rw [rv_nw, if_neg q]; exact o.2.2.2 k⟩
theorem HT.sI {O : AH} {t : TBe} {u : Nat} {h : AH} (H : HT O t u h) {x : Nat} (h1 : 1 ≤ x) (h2 : x ≤ t.length) (k : Nat) (i : Int) : HT O (tI t x k i) u (stI h x k (kI i)) := by
  have le := H.le
  refine ⟨by rw [len_tI]; exact H.sz, H.us, by rw [len_tI]; exact H.le, fun y y1 y2 => ?_, fun y hy => ?_⟩
  · rw [len_tI] at y2
    have c := H.c y y1 y2
    unfold tI
    rw [tcl_tU h1 h2 y1]
    by_cases q : y = x
    · rw [if_pos q, ← q]
      refine ⟨c.1, c.2.1, fun j => ?_, c.2.2.2⟩
      rw [iv_stI]
      show _ = kI (if j = k then i else lkI (tcl t y).2.2.1 j)
      by_cases z : j = k
      · rw [if_pos ⟨rfl, z⟩, if_pos z]
      · rw [if_neg (by omega), if_neg z]; exact c.2.2.1 j
    · rw [if_neg q]
      exact ⟨c.1, c.2.1, fun j => by rw [iv_stI, if_neg (by omega)]; exact c.2.2.1 j, c.2.2.2⟩
  · have o := H.o y hy
    exact ⟨o.1, o.2.1, fun j => by rw [iv_stI, if_neg (by omega)]; exact o.2.2.1 j, o.2.2.2⟩
theorem HT.sR {O : AH} {t : TBe} {u : Nat} {h : AH} (H : HT O t u h) {x : Nat} (h1 : 1 ≤ x) (h2 : x ≤ t.length) (k r : Nat) : HT O (tR t x k r) u (stR h x k r) := by
  have le := H.le
  refine ⟨by rw [len_tR]; exact H.sz, H.us, by rw [len_tR]; exact H.le, fun y y1 y2 => ?_, fun y hy => ?_⟩
  · rw [len_tR] at y2
    have c := H.c y y1 y2
    unfold tR
    rw [tcl_tU h1 h2 y1]
    by_cases q : y = x
    · rw [if_pos q, ← q]
      refine ⟨c.1, c.2.1, c.2.2.1, fun j => ?_⟩
      rw [rv_stR]
      show _ = (if j = k then r else lkR (tcl t y).2.2.2 j)
      by_cases z : j = k
      · rw [if_pos ⟨rfl, z⟩, if_pos z]
      · rw [if_neg (by omega), if_neg z]; exact c.2.2.2 j
    · rw [if_neg q]
      exact ⟨c.1, c.2.1, c.2.2.1, fun j => by rw [rv_stR, if_neg (by omega)]; exact c.2.2.2 j⟩
  · have o := H.o y hy
    exact ⟨o.1, o.2.1, o.2.2.1, fun j => by rw [rv_stR, if_neg (by omega)]; exact o.2.2.2 j⟩
theorem HT.sJ {O : AH} {t : TBe} {u : Nat} {h : AH} (H : HT O t u h) (x k : Nat) (v : Int64) : HT O t u (stJ h x k v) := ⟨H.sz, H.us, H.le, H.c, H.o⟩
theorem HT.kd {O : AH} {t : TBe} {u : Nat} {h : AH} (H : HT O t u h) {x c : Nat} (h1 : 1 ≤ x) (h2 : x ≤ t.length) (e : (tcl t x).1 = c) : decide (kdA h x = c) = true := by rw [decide_eq_true_eq, (H.c x h1 h2).1]; exact e
theorem kd1_tI {t : TBe} {x k : Nat} {i : Int} (h1 : 1 ≤ x) (h2 : x ≤ t.length) {y : Nat} (y1 : 1 ≤ y) : (tcl (tI t x k i) y).1 = (tcl t y).1 := by
  unfold tI
  rw [tcl_tU h1 h2 y1]
  split
  · rename_i q; rw [q]
  · rfl
theorem kd1_tR {t : TBe} {x k r : Nat} (h1 : 1 ≤ x) (h2 : x ≤ t.length) {y : Nat} (y1 : 1 ≤ y) : (tcl (tR t x k r) y).1 = (tcl t y).1 := by
  unfold tR
  rw [tcl_tU h1 h2 y1]
  split
  · rename_i q; rw [q]
  · rfl
theorem kd1_tNw {t : TBe} {k n y : Nat} (y1 : 1 ≤ y) (y2 : y ≤ t.length) : (tcl (tNw t k n) y).1 = (tcl t y).1 := by rw [tcl_tNw y1 y2]
/-! a page -/
def pgT (t : TBe) : TBe := tR (tNw (tI (tI (tI (tI t t.length 0 0) t.length 1 (-1)) t.length 2 (-1)) t.length 3 0) 20 4) t.length 4 (t.length + 1)
theorem Pg_new_h {O : AH} {t : TBe} {u : Nat} {h : AH} (H : HT O t u h) (l1 : 1 ≤ t.length) (l2 : t.length < 990) (k : (tcl t t.length).1 = 3) : GV 1 m_Pg_new [.ref t.length] h (HT O (pgT t) (u + 4)) := by
  have sz := H.sz
  have kp : kdA h t.length = 3 := by rw [(H.c _ l1 (Nat.le_refl _)).1]; exact k
  refine GVo (s_Pg_new_0 ?_)
  have H1 := (((H.sI l1 (Nat.le_refl _) 0 0).sI (x := t.length) l1 (by rw [len_tI]; omega) 1 (-1)).sI (x := t.length) l1 (by rw [len_tI, len_tI]; omega) 2 (-1)).sI (x := t.length) l1 (by rw [len_tI, len_tI, len_tI]; omega) 3 0
  have c4 : ix (kI 4) = 4 := rfl
  have szz : ∀ a b c d, szA (stI (stI (stI (stI h t.length 0 a) t.length 1 b) t.length 2 c) t.length 3 d) = t.length := fun _ _ _ _ => sz
  rw [c4, szz]
  simp only [kd_stI, kp]
  refine ⟨by rw [Bool.not_eq_true', decide_eq_false_iff_not]; omega, rfl, rfl, rfl, rfl, rfl, s_Pg_new_28 ?_⟩
  have H2 := H1.nw 20 4 (by rw [len_tI, len_tI, len_tI, len_tI]; omega)
  have kp2 : kdA (nwA (stI (stI (stI (stI h t.length 0 (kI 0)) t.length 1 (kI (-1))) t.length 2 (kI (-1))) t.length 3 (kI 0)) 20 4) t.length = 3 := by
    rw [kd_nw, if_neg (by rw [szz]; omega)]
    exact kp
  rw [kp2]
  exact ⟨rfl, rfl, H2.sR l1 (by rw [len_tNw, len_tI, len_tI, len_tI, len_tI]; omega) 4 (t.length + 1)⟩
theorem len_pgT (t : TBe) : (pgT t).length = t.length + 1 := by unfold pgT; rw [len_tR, len_tNw, len_tI, len_tI, len_tI, len_tI]
