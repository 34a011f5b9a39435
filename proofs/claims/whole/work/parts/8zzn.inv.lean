/-! what stands between two calls -/
abbrev GIm : Type := Nat → Option (Nat × ST × DY)
def XIm1 (T : Nat → Nat) (R : Nat → ST) (o : Option (Nat × ST × DY)) (i : Nat) (h : AH) : Prop := match o with
  | none => rvA h 82 i = 0
  | some q => rvA h 82 i = q.1 ∧ q.1 ≠ 0 ∧ XS T q.2.1 q.1 h ∧ XQ q.2.2 (84 + 2 * i) h ∧ R q.1 = q.2.1
def MIm1 (o : Option (Nat × ST × DY)) (i : Nat) (h : AH) : Prop := match o with
  | none => ivA h 90 i = kI 0
  | some q => ivA h 90 i = kI 1 ∧ WFS q.2.1 ∧ WFY q.2.1 q.2.2 ∧ MSt q.2.1 (1001 * (i + 1)) h ∧ MDy q.2.2 (1001 * (i + 1)) h
def CI (T : Nat → Nat) (R : Nat → ST) (s : ST) (p : Nat) (y : DY) (v : Int) (hs : List DY) (nx : Nat) (w : TW) (tp : Nat → Nat) (nt : Nat) (fa : Int32) (fb : Int32) (im : GIm) (h : AH) : Prop := (XI T R s p y v hs nx h) ∧ (XTs w h) ∧ (TX tp nt h) ∧ (RdZ h) ∧ (ivA h 36 11 = fa) ∧ (ivA h 36 12 = fb) ∧ (∀ i, i < 2 → XIm1 T R (im i) i h)
theorem CI.X {T : Nat → Nat} {R : Nat → ST} {s : ST} {p : Nat} {y : DY} {v : Int} {hs : List DY} {nx : Nat} {w : TW} {tp : Nat → Nat} {nt : Nat} {fa : Int32} {fb : Int32} {im : GIm} {h : AH} (C : CI T R s p y v hs nx w tp nt fa fb im h) : XI T R s p y v hs nx h := C.1
theorem CI.ts {T : Nat → Nat} {R : Nat → ST} {s : ST} {p : Nat} {y : DY} {v : Int} {hs : List DY} {nx : Nat} {w : TW} {tp : Nat → Nat} {nt : Nat} {fa : Int32} {fb : Int32} {im : GIm} {h : AH} (C : CI T R s p y v hs nx w tp nt fa fb im h) : XTs w h := C.2.1
theorem CI.tx {T : Nat → Nat} {R : Nat → ST} {s : ST} {p : Nat} {y : DY} {v : Int} {hs : List DY} {nx : Nat} {w : TW} {tp : Nat → Nat} {nt : Nat} {fa : Int32} {fb : Int32} {im : GIm} {h : AH} (C : CI T R s p y v hs nx w tp nt fa fb im h) : TX tp nt h := C.2.2.1
theorem CI.z {T : Nat → Nat} {R : Nat → ST} {s : ST} {p : Nat} {y : DY} {v : Int} {hs : List DY} {nx : Nat} {w : TW} {tp : Nat → Nat} {nt : Nat} {fa : Int32} {fb : Int32} {im : GIm} {h : AH} (C : CI T R s p y v hs nx w tp nt fa fb im h) : RdZ h := C.2.2.2.1
theorem CI.f {T : Nat → Nat} {R : Nat → ST} {s : ST} {p : Nat} {y : DY} {v : Int} {hs : List DY} {nx : Nat} {w : TW} {tp : Nat → Nat} {nt : Nat} {fa : Int32} {fb : Int32} {im : GIm} {h : AH} (C : CI T R s p y v hs nx w tp nt fa fb im h) : ivA h 36 11 = fa := C.2.2.2.2.1
theorem CI.g {T : Nat → Nat} {R : Nat → ST} {s : ST} {p : Nat} {y : DY} {v : Int} {hs : List DY} {nx : Nat} {w : TW} {tp : Nat → Nat} {nt : Nat} {fa : Int32} {fb : Int32} {im : GIm} {h : AH} (C : CI T R s p y v hs nx w tp nt fa fb im h) : ivA h 36 12 = fb := C.2.2.2.2.2.1
theorem CI.i {T : Nat → Nat} {R : Nat → ST} {s : ST} {p : Nat} {y : DY} {v : Int} {hs : List DY} {nx : Nat} {w : TW} {tp : Nat → Nat} {nt : Nat} {fa : Int32} {fb : Int32} {im : GIm} {h : AH} (C : CI T R s p y v hs nx w tp nt fa fb im h) : ∀ i, i < 2 → XIm1 T R (im i) i h := C.2.2.2.2.2.2
def MI (s : ST) (y : DY) (hs : List DY) (w : TW) (tp : Nat → Nat) (nt : Nat) (fa : Int32) (fb : Int32) (im : GIm) (h : AH) : Prop := (BM s y hs h) ∧ (MTs w h) ∧ (TM tp nt h) ∧ (ivA h 88 13 = fa) ∧ (ivA h 88 14 = fb) ∧ (∀ i, i < 2 → MIm1 (im i) i h)
theorem MI.B {s : ST} {y : DY} {hs : List DY} {w : TW} {tp : Nat → Nat} {nt : Nat} {fa : Int32} {fb : Int32} {im : GIm} {h : AH} (C : MI s y hs w tp nt fa fb im h) : BM s y hs h := C.1
theorem MI.ts {s : ST} {y : DY} {hs : List DY} {w : TW} {tp : Nat → Nat} {nt : Nat} {fa : Int32} {fb : Int32} {im : GIm} {h : AH} (C : MI s y hs w tp nt fa fb im h) : MTs w h := C.2.1
theorem MI.tm {s : ST} {y : DY} {hs : List DY} {w : TW} {tp : Nat → Nat} {nt : Nat} {fa : Int32} {fb : Int32} {im : GIm} {h : AH} (C : MI s y hs w tp nt fa fb im h) : TM tp nt h := C.2.2.1
theorem MI.f {s : ST} {y : DY} {hs : List DY} {w : TW} {tp : Nat → Nat} {nt : Nat} {fa : Int32} {fb : Int32} {im : GIm} {h : AH} (C : MI s y hs w tp nt fa fb im h) : ivA h 88 13 = fa := C.2.2.2.1
theorem MI.g {s : ST} {y : DY} {hs : List DY} {w : TW} {tp : Nat → Nat} {nt : Nat} {fa : Int32} {fb : Int32} {im : GIm} {h : AH} (C : MI s y hs w tp nt fa fb im h) : ivA h 88 14 = fb := C.2.2.2.2.1
theorem MI.i {s : ST} {y : DY} {hs : List DY} {w : TW} {tp : Nat → Nat} {nt : Nat} {fa : Int32} {fb : Int32} {im : GIm} {h : AH} (C : MI s y hs w tp nt fa fb im h) : ∀ i, i < 2 → MIm1 (im i) i h := C.2.2.2.2.2
def Scr (L : Nat) (xs : Nat → Int32) (h : AH) : Prop := kdA h 1000000 = 40 ∧ lnA h 1000000 = L ∧ ∀ k, ivA h 1000000 k = xs k
def RB (c nt : Nat) (h : AH) : Prop := usA h + PhP h + 68 * nt ≤ 1500000 + 3000 * c ∧ szA h + 3 * nt ≤ 1000 + 100 * c
def Inv (L : Nat) (xs : Nat → Int32) (c : Nat) (h : AH) : Prop := ∃ (T : Nat → Nat) (R : Nat → ST) (s : ST) (p : Nat) (y : DY) (v : Int) (hs : List DY) (nx : Nat) (w : TW) (tp : Nat → Nat) (nt : Nat) (fa : Int32) (fb : Int32) (im : GIm), CI T R s p y v hs nx w tp nt fa fb im h ∧ MI s y hs w tp nt fa fb im h ∧ WTs w ∧ OX h ∧ Scr L xs h ∧ v ≤ 50 * c ∧ RB c nt h
/-! frames -/
def AQ (T : Nat → Nat) (x : Nat) : Prop := T x = 1 ∨ (10 ≤ x ∧ x ≤ 13) ∨ (44 ≤ x ∧ x ≤ 72) ∨ (105 < x ∧ x < 1000000 ∧ T x = 2)
theorem AQ_T {T : Nat → Nat} (t : TF T) {x : Nat} (h : AQ T x) : T x ≠ 0 := by
  unfold AQ at h
  rcases h with h | h | h | h
  · omega
  · rw [t.two (a := x) (by omega) (by omega)]; omega
  · rw [t.two (a := x) (by omega) (by omega)]; omega
  · omega
theorem AQ_out {T : Nat → Nat} (t : TF T) {x : Nat} (h : AQ T x) (hx : x ≤ 105) : x = 5 ∨ (10 ≤ x ∧ x ≤ 13) ∨ (44 ≤ x ∧ x ≤ 72) := by
  unfold AQ at h
  rcases h with h | h | h | h
  · left
    have := t x hx
    rw [h] at this
    by_cases q : x = 3 ∨ x = 6 ∨ x = 7
    · rw [if_pos q] at this; omega
    · rw [if_neg q] at this
      by_cases q5 : x = 5
      · exact q5
      · rw [if_neg q5] at this; omega
  · exact Or.inr (Or.inl h)
  · exact Or.inr (Or.inr h)
  · omega
theorem AQ_lt {T : Nat → Nat} {h0 : AH} (td : TD T h0) (hz : szA h0 < 900000) {x : Nat} (h : AQ T x) : x < 1000000 := by
  unfold AQ at h
  by_cases q : 1000000 ≤ x
  · have := td x (by omega)
    omega
  · omega
theorem XIm1.fn {T : Nat → Nat} {R : Nat → ST} {o : Option (Nat × ST × DY)} {i : Nat} {A : Nat → Prop} {h h' : AH} (X : XIm1 T R o i h) (F : Fix h) (hi : i < 2) (e : FN A h h') (n0 : ∀ x, A x → T x ≠ 0) (n1 : ∀ x, A x → x < 82 ∨ 87 < x) : XIm1 T R o i h' := by
  have r := e.rv 82 (oldF F (by omega)) (fun w => by have := n1 _ w; omega) i
  cases o with
  | none => show rvA h' 82 i = 0; rw [r]; exact X
  | some q =>
    obtain ⟨x1, x2, x3, x4, x5⟩ := X
    exact ⟨by rw [r]; exact x1, x2, x3.fn e n0, x4.fn F e (by omega) (fun w => by have := n1 _ w; omega) (fun w => by have := n1 _ w; omega), x5⟩
theorem CI.fn {T : Nat → Nat} {R : Nat → ST} {s : ST} {p : Nat} {y : DY} {v : Int} {hs : List DY} {nx : Nat} {w : TW} {tp : Nat → Nat} {nt : Nat} {fa fb : Int32} {im : GIm} {A : Nat → Prop} {h h' : AH} (C : CI T R s p y v hs nx w tp nt fa fb im h) (e : FN A h h') (F' : Fix h') (n : ∀ x, A x → AQ T x) (I' : PI T R s p y v h') (hz : szA h' < 900000) : CI T R s p y v hs nx w tp nt fa fb im h' := by
  have F := C.X.B.F
  have t := C.X.B.t
  have out : ∀ x, A x → x ≤ 105 → x = 5 ∨ (10 ≤ x ∧ x ≤ 13) ∨ (44 ≤ x ∧ x ≤ 72) := fun x w hx => AQ_out t (n x w) hx
  have no : ∀ x, x ≤ 105 → ¬ (x = 5 ∨ (10 ≤ x ∧ x ≤ 13) ∨ (44 ≤ x ∧ x ≤ 72)) → ¬ A x := fun x hx z w => z (out x w hx)
  have i1 := e.iv 1 (oldF F (by omega)) (no 1 (by omega) (by omega))
  have i2 := e.iv 2 (oldF F (by omega)) (no 2 (by omega) (by omega))
  have i36 := e.iv 36 (oldF F (by omega)) (no 36 (by omega) (by omega))
  refine ⟨⟨C.X.B.fn e F' (fun a w => AQ_T t (n a w)) (fun a w => ?_), I', C.X.v0, C.X.v1, hz⟩, C.ts.fn F e (fun a w => ?_), ⟨C.tx.le, by rw [i1]; exact C.tx.i, fun k hk => by rw [i2]; exact C.tx.v k hk⟩, ?_, by rw [i36]; exact C.f, by rw [i36]; exact C.g, fun i hi => (C.i i hi).fn F hi e (fun a w => AQ_T t (n a w)) (fun a w => ?_)⟩
  · by_cases q : a ≤ 105
    · have := out a w q; omega
    · omega
  · by_cases q : a ≤ 105
    · have := out a w q; omega
    · omega
  · obtain ⟨k, k9, ek⟩ := C.z
    exact ⟨k, k9, by rw [i36]; exact ek⟩
  · by_cases q : a ≤ 105
    · have := out a w q; omega
    · omega
/-- the reference's calls leave the class alone -/
theorem CI.fm {T : Nat → Nat} {R : Nat → ST} {s : ST} {p : Nat} {y : DY} {v : Int} {hs : List DY} {nx : Nat} {w : TW} {tp : Nat → Nat} {nt : Nat} {fa fb : Int32} {im : GIm} {I J : Nat → Nat → Prop} {h h' : AH} (C : CI T R s p y v hs nx w tp nt fa fb im h) (e : Fr I J h h') (hi : ∀ a k, I a k → 88 ≤ a ∧ a ≤ 105) (hj : ∀ a k, J a k → 88 ≤ a ∧ a ≤ 105) : CI T R s p y v hs nx w tp nt fa fb im h' ∧ PhP h' = PhP h := by
  have F := C.X.B.F
  have t := C.X.B.t
  have tw : ∀ x, 88 ≤ x → x ≤ 105 → T x = 2 := fun x h1 h2 => t.two (a := x) h2 (by omega)
  have P := C.X.I.fr F t e (fun x k w => by have := hi x k w; exact Or.inr ⟨by rw [tw x (by omega) (by omega)]; omega, by omega, by omega⟩) (fun x k w => by have := hj x k w; exact Or.inr ⟨by rw [tw x (by omega) (by omega)]; omega, by omega, by omega⟩)
  have iv : ∀ x k, x < 88 → ivA h' x k = ivA h x k := fun x k hx => e.2.2.2.2.2.1 x k (fun w => by have := hi _ _ w; omega)
  have eN : FN (fun x => 88 ≤ x ∧ x ≤ 105) h h' := e.fn hi hj
  refine ⟨⟨⟨C.X.B.scr e (fun a k w => by have := hi a k w; omega), P.1, C.X.v0, C.X.v1, by rw [e.2.2.2.1]; exact C.X.hz⟩, C.ts.fr e (fun a k h1 h2 => ⟨fun w => by have := hi _ _ w; omega, fun w => by have := hj _ _ w; omega⟩), ⟨C.tx.le, by rw [iv _ _ (by omega)]; exact C.tx.i, fun k hk => by rw [iv _ _ (by omega)]; exact C.tx.v k hk⟩, ?_, by rw [iv _ _ (by omega)]; exact C.f, by rw [iv _ _ (by omega)]; exact C.g, fun i hi' => (C.i i hi').fn F hi' eN (fun x w => by rw [tw x w.1 w.2]; omega) (fun x w => by omega)⟩, P.2⟩
  obtain ⟨k, k9, ek⟩ := C.z
  exact ⟨k, k9, by rw [iv _ _ (by omega)]; exact ek⟩
theorem MIm1.of {o : Option (Nat × ST × DY)} {i : Nat} {h h' : AH} (X : MIm1 o i h) (e89 : ∀ k, 1001 * (i + 1) ≤ k → k < 1001 * (i + 2) → ivA h' 89 k = ivA h 89 k) (e90 : ivA h' 90 i = ivA h 90 i) : MIm1 o i h' := by
  cases o with
  | none => show ivA h' 90 i = kI 0; rw [e90]; exact X
  | some q =>
    obtain ⟨x1, x2, x3, x4, x5⟩ := X
    refine ⟨by rw [e90]; exact x1, x2, x3, MSt_ext2 x4 (fun k hk => e89 k (by omega) (by omega)), ?_⟩
    obtain ⟨d1, d2, d3, d4⟩ := x5
    exact ⟨by rw [e89 _ (by omega) (by omega)]; exact d1, by rw [e89 _ (by omega) (by omega)]; exact d2, by rw [e89 _ (by omega) (by omega)]; exact d3, fun k hk => by rw [e89 _ (by omega) (by omega)]; exact d4 k hk⟩
/-- the class's calls leave the reference alone -/
theorem MI.fn {s : ST} {y : DY} {hs : List DY} {w : TW} {tp : Nat → Nat} {nt : Nat} {fa fb : Int32} {im : GIm} {A : Nat → Prop} {h h' : AH} (M : MI s y hs w tp nt fa fb im h) (n : NM A) (e : FN A h h') (F' : Fix h') : MI s y hs w tp nt fa fb im h' := by
  have F := M.B.M.fix
  have i : ∀ x k, 88 ≤ x → x ≤ 105 → ivA h' x k = ivA h x k := fun x k h1 h2 => n.iv F e h1 h2 k
  refine ⟨M.B.fn n e F', M.ts.fn F n e, ⟨M.tm.le, by rw [i _ _ (by omega) (by omega)]; exact M.tm.i, fun k hk => by rw [i _ _ (by omega) (by omega)]; exact M.tm.v k hk, M.tm.b⟩, by rw [i _ _ (by omega) (by omega)]; exact M.f, by rw [i _ _ (by omega) (by omega)]; exact M.g, fun j hj => (M.i j hj).of (fun k _ _ => i _ _ (by omega) (by omega)) (i _ _ (by omega) (by omega))⟩
def IQ (a k : Nat) : Prop := (92 ≤ a ∧ a ≤ 102) ∨ (a = 88 ∧ (k = 0 ∨ k = 19 ∨ k = 20)) ∨ (a = 89 ∧ k < 1001)
theorem MI.fr {s s' : ST} {y y' : DY} {hs hs' : List DY} {w : TW} {tp : Nat → Nat} {nt : Nat} {fa fb : Int32} {im : GIm} {I J : Nat → Nat → Prop} {h h' : AH} (M : MI s y hs w tp nt fa fb im h) (e : Fr I J h h') (hi : ∀ a k, I a k → IQ a k) (hj : ∀ a k, J a k → a = 100) (B' : BM s' y' hs' h') : MI s' y' hs' w tp nt fa fb im h' := by
  have i : ∀ x k, ¬ IQ x k → ivA h' x k = ivA h x k := fun x k z => e.2.2.2.2.2.1 x k (fun w => z (hi x k w))
  refine ⟨B', M.ts.fr e (fun a k h1 h2 => ⟨fun w => by have := hi _ _ w; unfold IQ at this; omega, fun w => by have := hj _ _ w; omega⟩), ⟨M.tm.le, by rw [i _ _ (by unfold IQ; omega)]; exact M.tm.i, fun k hk => by rw [i _ _ (by unfold IQ; omega)]; exact M.tm.v k hk, M.tm.b⟩, by rw [i _ _ (by unfold IQ; omega)]; exact M.f, by rw [i _ _ (by unfold IQ; omega)]; exact M.g, fun j hj' => (M.i j hj').of (fun k k1 _ => i _ _ (by unfold IQ; omega)) (i _ _ (by unfold IQ; omega))⟩
theorem Scr.fn {L : Nat} {xs : Nat → Int32} {A : Nat → Prop} {h h' : AH} (S : Scr L xs h) (e : FN A h h') (n : ∀ x, A x → x < 1000000) : Scr L xs h' := by
  have o : old h 1000000 := Or.inr (Nat.le_refl _)
  have na : ¬ A 1000000 := fun w => by have := n _ w; omega
  exact ⟨by rw [(e.kl _ o).1]; exact S.1, by rw [(e.kl _ o).2]; exact S.2.1, fun k => by rw [e.iv _ o na]; exact S.2.2 k⟩
/-! a call on both sides -/
def OpI (L : Nat) (xs : Nat → Int32) (c : Nat) (uX uM : Nat) (as : List Value) (h : AH) : Prop := ∃ x, GI 150 uX (.ref 1 :: as) h x (fun h1 => Scr L xs h1 ∧ Fix h1 ∧ GI 150 uM (.ref 88 :: as) h1 x (Inv L xs (c + 1)))
def OpJ (L : Nat) (xs : Nat → Int32) (c : Nat) (uX uM : Nat) (as : List Value) (h : AH) : Prop := ∃ x, GJ 150 uX (.ref 1 :: as) h x (fun h1 => Scr L xs h1 ∧ Fix h1 ∧ GJ 150 uM (.ref 88 :: as) h1 x (Inv L xs (c + 1)))
theorem GJ.mono {d d' u : Nat} {as : List Value} {h : AH} {x : Int64} {P P' : AH → Prop} (H : GJ d u as h x P) (hd : d ≤ d') (hk : ∀ h', P h' → P' h') : GJ d' u as h x P' := by
  obtain ⟨h', hr, hp⟩ := H
  exact ⟨h', hr.up hd, hk h' hp⟩
/-- all in order again, behind the reference's call -/
theorem Inv.of {T : Nat → Nat} {R : Nat → ST} {s : ST} {p : Nat} {y : DY} {v : Int} {hs : List DY} {nx : Nat} {w : TW} {tp : Nat → Nat} {nt : Nat} {fa fb : Int32} {im : GIm} {I J : Nat → Nat → Prop} {L : Nat} {xs : Nat → Int32} {c : Nat} {h h' : AH} (C : CI T R s p y v hs nx w tp nt fa fb im h) (e : Fr I J h h') (hi : ∀ a k, I a k → 88 ≤ a ∧ a ≤ 105) (hj : ∀ a k, J a k → 88 ≤ a ∧ a ≤ 105) (M : MI s y hs w tp nt fa fb im h') (W : WTs w) (O : OX h) (S : Scr L xs h) (hv : v ≤ 50 * c) (B : RB c nt h) : Inv L xs c h' := by
  have q := C.fm e hi hj
  refine ⟨T, R, s, p, y, v, hs, nx, w, tp, nt, fa, fb, im, q.1, M, W, O.fr e (fun x k w => by have := hi _ _ w; omega), S.fn (e.fn hi hj) (fun x w => by omega), hv, ?_⟩
  unfold RB at *
  rw [q.2, e.2.2.2.1, e.2.2.2.2.1]
  exact B
/-- a query of the class -/
def QX (T : Nat → Nat) (R : Nat → ST) (s : ST) (p : Nat) (y : DY) (v : Int) (h h1 : AH) : Prop := ∃ A : Nat → Prop, FN A h h1 ∧ Fix h1 ∧ (∀ x, A x → AQ T x) ∧ PI T R s p y v h1 ∧ usA h1 + PhP h1 ≤ usA h + PhP h ∧ szA h1 ≤ szA h + 3
/-- a query of the reference -/
def QM (h h1 : AH) : Prop := ∃ I J : Nat → Nat → Prop, Fr I J h h1 ∧ (∀ a k, I a k → IQ a k ∧ a ≠ 89) ∧ (∀ a k, J a k → a = 100)
theorem CI.qx {T : Nat → Nat} {R : Nat → ST} {s : ST} {p : Nat} {y : DY} {v : Int} {hs : List DY} {nx : Nat} {w : TW} {tp : Nat → Nat} {nt : Nat} {fa fb : Int32} {im : GIm} {L : Nat} {xs : Nat → Int32} {c : Nat} {h h1 : AH} (C : CI T R s p y v hs nx w tp nt fa fb im h) (M : MI s y hs w tp nt fa fb im h) (O : OX h) (S : Scr L xs h) (B : RB c nt h) (c5 : c ≤ 600) (Q : QX T R s p y v h h1) : CI T R s p y v hs nx w tp nt fa fb im h1 ∧ MI s y hs w tp nt fa fb im h1 ∧ OX h1 ∧ Scr L xs h1 ∧ RB (c + 1) nt h1 ∧ Fix h1 := by
  obtain ⟨A, e, F', n, I', u, z⟩ := Q
  have B2 := B.2
  have lt : ∀ x, A x → x < 1000000 := fun x w => AQ_lt C.X.I.td C.X.hz (n x w)
  have nm : NM A := fun x w => by
    by_cases q : x ≤ 105
    · have := AQ_out C.X.B.t (n x w) q; omega
    · have := lt x w; omega
  refine ⟨C.fn e F' n I' (by omega), M.fn nm e F', O.fn e lt, S.fn e lt, ?_, F'⟩
  unfold RB at *
  omega
theorem opq {T : Nat → Nat} {R : Nat → ST} {s : ST} {p : Nat} {y : DY} {v : Int} {hs : List DY} {nx : Nat} {w : TW} {tp : Nat → Nat} {nt : Nat} {fa fb : Int32} {im : GIm} {L : Nat} {xs : Nat → Int32} {c : Nat} {h : AH} (C : CI T R s p y v hs nx w tp nt fa fb im h) (M : MI s y hs w tp nt fa fb im h) (W : WTs w) (O : OX h) (S : Scr L xs h) (hv : v ≤ 50 * c) (B : RB c nt h) (c5 : c ≤ 600) {uX uM dX dM : Nat} {as : List Value} {x : Int32} (hX : dX ≤ 150) (hM : dM ≤ 150) (HX : GI dX uX (.ref 1 :: as) h x (QX T R s p y v h)) (HM : ∀ h1, MI s y hs w tp nt fa fb im h1 → GI dM uM (.ref 88 :: as) h1 x (fun h3 => QM h1 h3 ∨ (Fr IMd JM h1 h3 ∧ BM s y hs h3))) : OpI L xs c uX uM as h := by
  refine ⟨x, HX.mono hX (fun h1 Q => ?_)⟩
  obtain ⟨C1, M1, O1, S1, B1, F1'⟩ := C.qx M O S B c5 Q
  refine ⟨S1, F1', (HM h1 M1).mono hM (fun h3 z => ?_)⟩
  rcases z with ⟨I, J, e, hi, hj⟩ | ⟨e, B3⟩
  · have B3 : BM s y hs h3 := M1.B.scr e (fun k _ w => (hi _ _ w).2 rfl)
    exact Inv.of C1 e (fun a k w => by have := (hi a k w).1; unfold IQ at this; omega) (fun a k w => by have := hj a k w; omega) (M1.fr e (fun a k w => (hi a k w).1) hj B3) W O1 S1 (by omega) B1
  · exact Inv.of C1 e (fun a k w => by unfold IMd IM at w; omega) (fun a k w => w.elim) (M1.fr e (fun a k w => by unfold IMd IM at w; unfold IQ; omega) (fun a k w => w.elim) B3) W O1 S1 (by omega) B1
theorem opqJ {T : Nat → Nat} {R : Nat → ST} {s : ST} {p : Nat} {y : DY} {v : Int} {hs : List DY} {nx : Nat} {w : TW} {tp : Nat → Nat} {nt : Nat} {fa fb : Int32} {im : GIm} {L : Nat} {xs : Nat → Int32} {c : Nat} {h : AH} (C : CI T R s p y v hs nx w tp nt fa fb im h) (M : MI s y hs w tp nt fa fb im h) (W : WTs w) (O : OX h) (S : Scr L xs h) (hv : v ≤ 50 * c) (B : RB c nt h) (c5 : c ≤ 600) {uX uM dX dM : Nat} {as : List Value} {x : Int64} (hX : dX ≤ 150) (hM : dM ≤ 150) (HX : GJ dX uX (.ref 1 :: as) h x (QX T R s p y v h)) (HM : ∀ h1, MI s y hs w tp nt fa fb im h1 → GJ dM uM (.ref 88 :: as) h1 x (QM h1)) : OpJ L xs c uX uM as h := by
  refine ⟨x, HX.mono hX (fun h1 Q => ?_)⟩
  obtain ⟨C1, M1, O1, S1, B1, F1'⟩ := C.qx M O S B c5 Q
  refine ⟨S1, F1', (HM h1 M1).mono hM (fun h3 z => ?_)⟩
  obtain ⟨I, J, e, hi, hj⟩ := z
  have B3 : BM s y hs h3 := M1.B.scr e (fun k _ w => (hi _ _ w).2 rfl)
  exact Inv.of C1 e (fun a k w => by have := (hi a k w).1; unfold IQ at this; omega) (fun a k w => by have := hj a k w; omega) (M1.fr e (fun a k w => (hi a k w).1) hj B3) W O1 S1 (by omega) B1
/-! the frames that queries leave -/
theorem qx_rfl {T : Nat → Nat} {R : Nat → ST} {s : ST} {p : Nat} {y : DY} {v : Int} {hs : List DY} {nx : Nat} {h : AH} (X : XI T R s p y v hs nx h) : QX T R s p y v h h := ⟨fun _ => False, FN_rfl _ _, X.B.F, fun _ w => w.elim, X.I, Nat.le_refl _, by omega⟩
theorem qx_fg {T : Nat → Nat} {R : Nat → ST} {s : ST} {p : Nat} {y : DY} {v : Int} {hs : List DY} {nx : Nat} {h h1 : AH} (X : XI T R s p y v hs nx h) (e : FG T h h1) : QX T R s p y v h h1 := by
  have P := X.I.fr X.B.F X.B.t e (fun x _ w => Or.inl w) (fun x _ w => w.elim)
  exact ⟨fun x => T x = 1, e.fn (fun _ _ w => w) (fun _ _ w => w.elim), e.fix X.B.F, fun x w => Or.inl w, P.1, by rw [P.2, e.2.2.2.2.1]; omega, by rw [e.2.2.2.1]; omega⟩
theorem qx_fs {T : Nat → Nat} {R : Nat → ST} {s : ST} {p : Nat} {y : DY} {v : Int} {hs : List DY} {nx : Nat} {h h1 : AH} (X : XI T R s p y v hs nx h) (e : FS T h h1) : QX T R s p y v h h1 := by
  have P := X.I.fr X.B.F X.B.t e (fun x _ w => by rcases w with w | w; exact Or.inl w; exact Or.inr ⟨by rw [X.B.t.two (a := x) (by omega) (by omega)]; omega, by omega, by omega⟩) (fun x _ w => w.elim)
  exact ⟨fun x => T x = 1 ∨ (67 ≤ x ∧ x ≤ 72), e.fn (fun _ _ w => w) (fun _ _ w => w.elim), e.fix X.B.F, fun x w => by rcases w with w | w; exact Or.inl w; exact Or.inr (Or.inr (Or.inl (by omega))), P.1, by rw [P.2, e.2.2.2.2.1]; omega, by rw [e.2.2.2.1]; omega⟩
theorem qx_g {T : Nat → Nat} {R : Nat → ST} {s : ST} {p : Nat} {y : DY} {v : Int} {h h1 : AH} (O : OutG T R s p y v h h1) : QX T R s p y v h h1 := ⟨APt T, O.1, O.2.1, fun x w => by rcases w with w | w | w; exact Or.inl w; exact Or.inr (Or.inr (Or.inl (by omega))); exact Or.inr (Or.inr (Or.inr w)), O.2.2.2, O.2.2.1.1, O.2.2.1.2⟩
theorem qx_ch {T : Nat → Nat} {R : Nat → ST} {s : ST} {p : Nat} {y : DY} {v : Int} {h h1 : AH} (O : OutCh T R s p y v h h1) : QX T R s p y v h h1 := ⟨ACh T, O.1, O.2.1, fun x w => by rcases w with w | w | w; exact Or.inl w; exact Or.inr (Or.inr (Or.inl (by omega))); exact Or.inr (Or.inr (Or.inl (by omega))), O.2.2.2, by have := O.2.2.1; omega, by have := O.2.2.1; omega⟩
theorem qm_im {h h1 : AH} (e : Fr IM JM h h1) : QM h h1 := ⟨_, _, e, fun a k w => by unfold IM at w; unfold IQ; omega, fun _ _ w => w.elim⟩
theorem qm_rw {h h1 : AH} (e : FRw h h1) : QM h h1 := ⟨_, _, e, fun a k w => by unfold IM at w; unfold IQ; omega, fun _ _ w => w.elim⟩
theorem qm_sf {h h1 : AH} (e : FSf h h1) : QM h h1 := ⟨_, _, e, fun a k w => by unfold IM at w; unfold IQ; omega, fun _ _ w => w.elim⟩
theorem qm_gm {h h1 : AH} (e : FGm h h1) : QM h h1 := ⟨_, _, e, fun a k w => by unfold IM at w; unfold IQ; omega, fun _ _ w => w.elim⟩
theorem qm_rc {h h1 : AH} (e : FRc h h1) : QM h h1 := ⟨_, _, e, fun a k w => by unfold IM at w; unfold IQ; omega, fun a k w => w⟩
theorem qm_fw {h h1 : AH} (e : FW h h1) : QM h h1 := ⟨_, _, e, fun a k w => by unfold IM at w; unfold IQ; omega, fun _ _ w => w.elim⟩
theorem qm_0 {h h1 : AH} (e : h1 = stI h 88 0 (kI 0)) : QM h h1 := ⟨fun a k => a = 88 ∧ k = 0, JM, by rw [e]; exact F1_st h 88 0 _, fun a k w => by unfold IQ; omega, fun _ _ w => w.elim⟩
theorem int_b (x : Int32) : x = kI x.toInt ∧ -2147483648 ≤ x.toInt ∧ x.toInt ≤ 2147483647 := ⟨kI_of x, Int32.le_toInt x, by have := Int32.toInt_lt x; omega⟩
