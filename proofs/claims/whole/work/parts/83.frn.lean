/-! frames that may make new cells and change references: cells at A may change, the others stay -/
def old (h : AH) (a : Nat) : Prop := a ≤ szA h ∨ 1000000 ≤ a
def FN (A : Nat → Prop) (h : AH) (h' : AH) : Prop := (∀ a, old h a → kdA h' a = kdA h a ∧ lnA h' a = lnA h a) ∧ (szA h ≤ szA h') ∧ (szA h < 1000000 → szA h' < 1000000) ∧ (usA h ≤ usA h') ∧ (∀ a, old h a → ¬ A a → ∀ k, ivA h' a k = ivA h a k) ∧ (∀ a, old h a → ¬ A a → ∀ k, jvA h' a k = jvA h a k) ∧ (∀ a, old h a → ¬ A a → ∀ k, rvA h' a k = rvA h a k)
theorem FN.kl {A : Nat → Prop} {h : AH} {h' : AH} (C : FN A h h') : ∀ a, old h a → kdA h' a = kdA h a ∧ lnA h' a = lnA h a := C.1
theorem FN.sz {A : Nat → Prop} {h : AH} {h' : AH} (C : FN A h h') : szA h ≤ szA h' := C.2.1
theorem FN.lt {A : Nat → Prop} {h : AH} {h' : AH} (C : FN A h h') : szA h < 1000000 → szA h' < 1000000 := C.2.2.1
theorem FN.us {A : Nat → Prop} {h : AH} {h' : AH} (C : FN A h h') : usA h ≤ usA h' := C.2.2.2.1
theorem FN.iv {A : Nat → Prop} {h : AH} {h' : AH} (C : FN A h h') : ∀ a, old h a → ¬ A a → ∀ k, ivA h' a k = ivA h a k := C.2.2.2.2.1
theorem FN.jv {A : Nat → Prop} {h : AH} {h' : AH} (C : FN A h h') : ∀ a, old h a → ¬ A a → ∀ k, jvA h' a k = jvA h a k := C.2.2.2.2.2.1
theorem FN.rv {A : Nat → Prop} {h : AH} {h' : AH} (C : FN A h h') : ∀ a, old h a → ¬ A a → ∀ k, rvA h' a k = rvA h a k := C.2.2.2.2.2.2
theorem FN_rfl (A : Nat → Prop) (h : AH) : FN A h h := ⟨fun _ _ => ⟨rfl, rfl⟩, Nat.le_refl _, fun w => w, Nat.le_refl _, fun _ _ _ _ => rfl, fun _ _ _ _ => rfl, fun _ _ _ _ => rfl⟩
theorem old.up {h h' : AH} {a : Nat} (o : old h a) (s : szA h ≤ szA h') : old h' a := by
  rcases o with o | o
  · exact Or.inl (by omega)
  · exact Or.inr o
theorem FN.trans {A : Nat → Prop} {h h1 h2 : AH} (e : FN A h h1) (f : FN A h1 h2) : FN A h h2 := by
  refine ⟨fun a o => ?_, Nat.le_trans e.sz f.sz, fun w => f.lt (e.lt w), Nat.le_trans e.us f.us, fun a o n k => ?_, fun a o n k => ?_, fun a o n k => ?_⟩
  · have h1' := e.kl a o
    have h2' := f.kl a (o.up e.sz)
    exact ⟨h2'.1.trans h1'.1, h2'.2.trans h1'.2⟩
  · rw [f.iv a (o.up e.sz) n, e.iv a o n]
  · rw [f.jv a (o.up e.sz) n, e.jv a o n]
  · rw [f.rv a (o.up e.sz) n, e.rv a o n]
theorem FN.mono {A A' : Nat → Prop} {h h1 : AH} (e : FN A h h1) (s : ∀ a, A a → A' a) : FN A' h h1 := ⟨e.kl, e.sz, e.lt, e.us, fun a o n => e.iv a o (fun w => n (s a w)), fun a o n => e.jv a o (fun w => n (s a w)), fun a o n => e.rv a o (fun w => n (s a w))⟩
theorem Fr.fn {I J : Nat → Nat → Prop} {A : Nat → Prop} {h h' : AH} (e : Fr I J h h') (hi : ∀ a k, I a k → A a) (hj : ∀ a k, J a k → A a) : FN A h h' := by
  refine ⟨fun a _ => ⟨by rw [e.1], by rw [e.2.1]⟩, by rw [e.2.2.2.1]; exact Nat.le_refl _, fun w => by rw [e.2.2.2.1]; exact w, by rw [e.2.2.2.2.1]; exact Nat.le_refl _, fun a _ n k => e.2.2.2.2.2.1 a k (fun w => n (hi a k w)), fun a _ n k => e.2.2.2.2.2.2 a k (fun w => n (hj a k w)), fun a _ _ k => by rw [e.2.2.1]⟩
theorem FN_stR {A : Nat → Prop} {h : AH} {a k x : Nat} (ha : A a) : FN A h (stR h a k x) := by
  refine ⟨fun _ _ => ⟨rfl, rfl⟩, Nat.le_refl _, fun w => w, Nat.le_refl _, fun _ _ _ _ => rfl, fun _ _ _ _ => rfl, fun b _ n j => ?_⟩
  show up2 h.2.2.2.2.1 a k x b j = _
  unfold up2
  rw [if_neg (fun w => n (by rw [w.1]; exact ha))]
  rfl
theorem rv_stR (h : AH) (a k x b j : Nat) : rvA (stR h a k x) b j = if b = a ∧ j = k then x else rvA h b j := rfl
theorem kd_stR (h : AH) (a k x b : Nat) : kdA (stR h a k x) b = kdA h b := rfl
theorem ln_stR (h : AH) (a k x b : Nat) : lnA (stR h a k x) b = lnA h b := rfl
theorem iv_stR (h : AH) (a k x b j : Nat) : ivA (stR h a k x) b j = ivA h b j := rfl
theorem jv_stR (h : AH) (a k x b j : Nat) : jvA (stR h a k x) b j = jvA h b j := rfl
/-- references that never change stand in the table -/
theorem fix_stR {h : AH} (F : Fix h) {a k x : Nat} (n : ∀ q ∈ rvTab, ¬ (q.1 = a ∧ q.2.1 = k)) : Fix (stR h a k x) := by
  refine ⟨F.1, F.2.1, fun q hq => ?_, F.2.2.2⟩
  rw [rv_stR, if_neg (n q hq)]
  exact F.2.2.1 q hq
theorem rvT_82 (k : Nat) : ∀ q ∈ rvTab, ¬ (q.1 = 82 ∧ q.2.1 = k) := by
  have h : ∀ q ∈ rvTab, q.1 ≠ 82 := by decide +kernel
  exact fun q hq w => h q hq w.1
theorem rvT_12 : ∀ q ∈ rvTab, ¬ (q.1 = 1 ∧ q.2.1 = 2) := by decide +kernel
theorem XL.fn {T : Nat → Nat} {A : Nat → Prop} {code : List Nat} {q : Nat} {h h' : AH} (C : XL T code q h) (e : FN A h h') (hi : ∀ a, A a → T a ≠ 0) : XL T code q h' ∧ rvA h' q 1 = rvA h q 1 := by
  have oq : old h q := Or.inl C.bq.2
  have nq : ¬ A q := fun w => hi q w C.gq
  have r := e.rv q oq nq
  have o0 : old h (rvA h q 0) := Or.inl C.b0
  have o1 : old h (rvA h q 1) := Or.inl C.b1
  have n0 : ¬ A (rvA h q 0) := fun w => hi _ w C.g0
  have s := e.sz
  refine ⟨?_, r 1⟩
  unfold XL
  rw [r 0, r 1, (e.kl q oq).1, (e.kl _ o0).1, (e.kl _ o0).2, (e.kl _ o1).1, (e.kl _ o1).2]
  have b1 := C.bq
  have b2 := C.b0
  have b3 := C.b1
  exact ⟨C.k, C.kc, C.lc, C.ks, C.ls, fun k hk => by rw [e.iv _ o0 n0]; exact C.cd k hk, C.g0, C.g1, C.gq, ⟨b1.1, by omega⟩, by omega, by omega, C.len⟩
theorem XS.fn {T : Nat → Nat} {A : Nat → Prop} {s : ST} {p : Nat} {h h' : AH} (C : XS T s p h) (e : FN A h h') (hi : ∀ a, A a → T a ≠ 0) : XS T s p h' := by
  have op : old h p := Or.inl C.bp.2
  have np : ¬ A p := fun w => hi p w C.gp
  have r := e.rv p op np
  have i := e.iv p op np
  have o9 : old h (rvA h p 9) := Or.inl C.b9
  have o10 : old h (rvA h p 10) := Or.inl C.b10
  have o13 : old h (rvA h p 13) := Or.inl C.b13
  have n9 : ¬ A (rvA h p 9) := fun w => hi _ w C.g9
  have n10 : ¬ A (rvA h p 10) := fun w => hi _ w C.g10
  have s := e.sz
  have b1 := C.bp
  have b2 := C.b9
  have b3 := C.b10
  have b4 := C.b13
  unfold XS
  rw [r 9, r 10, r 11, r 12, r 13, (e.kl p op).1, (e.kl _ o9).1, (e.kl _ o9).2, (e.kl _ o10).1, (e.kl _ o10).2, (e.kl _ o13).1, (e.kl _ o13).2, i 0, i 1, i 2, i 3, i 4, i 5, i 6, i 7, i 8]
  refine ⟨C.wf, C.k, C.i0, C.i1, C.i2, C.i3, C.i4, C.i5, C.i6, C.i7, C.i8, C.k9, C.l9, fun k hk => by rw [e.iv _ o9 n9]; exact C.c9 k hk, C.k10, C.l10, fun k hk => by rw [e.iv _ o10 n10]; exact C.c10 k hk, C.m0, fun q => ?_, C.o0, fun q => ?_, C.k13, C.l13, C.gp, C.g9, C.g10, C.g13, ⟨b1.1, by omega⟩, by omega, by omega, by omega⟩
  · have := (C.m1 q).1.fn e hi
    exact ⟨this.1, by rw [this.2]; exact (C.m1 q).2⟩
  · have := (C.o1 q).1.fn e hi
    exact ⟨this.1, by rw [this.2]; exact (C.o1 q).2⟩
theorem oldF {h : AH} (F : Fix h) {a : Nat} (ha : a ≤ 105) : old h a := Or.inl (by have := F.2.2.2; omega)
theorem XP.fn {A : Nat → Prop} {y : DY} {v : Int} {pg : Nat} {h h' : AH} (C : XP y v pg h) (F : Fix h) (e : FN A h h') (hp : pg + 1 ≤ 105) (n1 : ¬ A pg) (n2 : ¬ A (pg + 1)) : XP y v pg h' := by
  have i1 := e.iv pg (oldF F (by omega)) n1
  have i2 := e.iv (pg + 1) (oldF F (by omega)) n2
  unfold XP
  simp only [i1, i2]
  exact C
theorem XQ.fn {A : Nat → Prop} {y : DY} {pg : Nat} {h h' : AH} (C : XQ y pg h) (F : Fix h) (e : FN A h h') (hp : pg + 1 ≤ 105) (n1 : ¬ A pg) (n2 : ¬ A (pg + 1)) : XQ y pg h' := (C.p.fn F e hp n1 n2).q
theorem XH.fn {A : Nat → Prop} {hs : List DY} {nx : Nat} {h h' : AH} (C : XH hs nx h) (F : Fix h) (e : FN A h h') (n : ∀ a, A a → a < 14 ∨ 35 < a) : XH hs nx h' := by
  have i := e.iv 14 (oldF F (by omega)) (fun w => by have := n 14 w; omega)
  refine ⟨C.n, C.len, by rw [i]; exact C.i1, by rw [i]; exact C.i2, fun j hj => (C.pg j hj).fn F e (by omega) (fun w => by have := n _ w; omega) (fun w => by have := n _ w; omega)⟩
theorem XTs.fn {A : Nat → Prop} {w : TW} {h h' : AH} (C : XTs w h) (F : Fix h) (e : FN A h h') (n : ∀ a, A a → a < 74 ∨ 81 < a) : XTs w h' := by
  intro t ht
  have i := e.iv (74 + 2 * t) (oldF F (by omega)) (fun z => by have := n _ z; omega)
  have j := e.jv (75 + 2 * t) (oldF F (by omega)) (fun z => by have := n _ z; omega)
  have := C t ht
  unfold XT at this ⊢
  simp only [i, j]
  exact this
/-- a frame that leaves the reference alone -/
def NM (A : Nat → Prop) : Prop := ∀ a, A a → a < 88 ∨ (105 < a ∧ a < 1000000)
theorem NM.iv {A : Nat → Prop} (n : NM A) {h h' : AH} (F : Fix h) (e : FN A h h') {a : Nat} (h1 : 88 ≤ a) (h2 : a ≤ 105) (k : Nat) : ivA h' a k = ivA h a k := e.iv a (oldF F h2) (fun w => by have := n a w; omega) k
theorem NM.jv {A : Nat → Prop} (n : NM A) {h h' : AH} (F : Fix h) (e : FN A h h') {a : Nat} (h1 : 88 ≤ a) (h2 : a ≤ 105) (k : Nat) : jvA h' a k = jvA h a k := e.jv a (oldF F h2) (fun w => by have := n a w; omega) k
theorem MC.fn {A : Nat → Prop} {s : ST} {y : DY} {h h' : AH} (C : MC s y h) (n : NM A) (e : FN A h h') (F' : Fix h') : MC s y h' := by
  have i := n.iv C.fix e (a := 89) (by omega) (by omega)
  exact ⟨F', C.2.1, C.2.2.1, MSt_ext C.2.2.2.1 i, MDy_ext C.2.2.2.2 i⟩
theorem BM.fn {A : Nat → Prop} {s : ST} {y : DY} {hs : List DY} {h h' : AH} (B : BM s y hs h) (n : NM A) (e : FN A h h') (F' : Fix h') : BM s y hs h' := by
  have i := n.iv B.M.fix e (a := 89) (by omega) (by omega)
  exact ⟨B.M.fn n e F', ⟨B.H.len, by rw [i]; exact B.H.i29, fun j hj k hk => by rw [i]; exact B.H.e j hj k hk⟩, B.wh⟩
theorem MTs.fn {A : Nat → Prop} {w : TW} {h h' : AH} (C : MTs w h) (F : Fix h) (n : NM A) (e : FN A h h') : MTs w h' := by
  intro t ht
  have i3 := n.iv F e (a := 103) (by omega) (by omega)
  have i4 := n.iv F e (a := 104) (by omega) (by omega)
  have j5 := n.jv F e (a := 105) (by omega) (by omega)
  have := C t ht
  unfold MT at this ⊢
  simp only [i3, i4, j5]
  exact this
