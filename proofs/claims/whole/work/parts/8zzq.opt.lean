/-! trays, the tape, images, sheets: on both sides -/
theorem CI.t {T : Nat → Nat} {R : Nat → ST} {s : ST} {p : Nat} {y : DY} {v : Int} {hs : List DY} {nx : Nat} {w w' : TW} {tp tp' : Nat → Nat} {nt nt' : Nat} {fa fb : Int32} {im : GIm} {I J : Nat → Nat → Prop} {h h' : AH} (C : CI T R s p y v hs nx w tp nt fa fb im h) (e : Fr I J h h') (hi : ∀ a k, I a k → (a = 1 ∧ k = 1) ∨ a = 2 ∨ (74 ≤ a ∧ a ≤ 81)) (hj : ∀ a k, J a k → 74 ≤ a ∧ a ≤ 81) (X' : XTs w' h') (t' : TX tp' nt' h') : CI T R s p y v hs nx w' tp' nt' fa fb im h' ∧ PhP h' = PhP h := by
  have F := C.X.B.F
  have t := C.X.B.t
  have tw : ∀ x, (x = 1 ∨ x = 2 ∨ (74 ≤ x ∧ x ≤ 81)) → T x = 2 := fun x hx => t.two (a := x) (by omega) (by omega)
  have P := C.X.I.fr F t e (fun x k w => by have := hi x k w; exact Or.inr ⟨by rw [tw x (by omega)]; omega, by omega, by omega⟩) (fun x k w => by have := hj x k w; exact Or.inr ⟨by rw [tw x (by omega)]; omega, by omega, by omega⟩)
  have iv : ∀ x k, x = 36 → ivA h' x k = ivA h x k := fun x k hx => e.2.2.2.2.2.1 x k (fun w => by have := hi _ _ w; omega)
  have eN : FN (fun x => x = 1 ∨ x = 2 ∨ (74 ≤ x ∧ x ≤ 81)) h h' := e.fn (fun a k w => by have := hi a k w; omega) (fun a k w => by have := hj a k w; omega)
  refine ⟨⟨⟨C.X.B.scr e (fun a k w => by have := hi a k w; omega), P.1, C.X.v0, C.X.v1, by rw [e.2.2.2.1]; exact C.X.hz⟩, X', t', ?_, by rw [iv _ _ rfl]; exact C.f, by rw [iv _ _ rfl]; exact C.g, fun i hi' => (C.i i hi').fn F hi' eN (fun x w => by rw [tw x w]; omega) (fun x w => by omega)⟩, P.2⟩
  obtain ⟨k, k9, ek⟩ := C.z
  exact ⟨k, k9, by rw [iv _ _ rfl]; exact ek⟩
theorem MI.t {s : ST} {y : DY} {hs : List DY} {w w' : TW} {tp tp' : Nat → Nat} {nt nt' : Nat} {fa fb : Int32} {im : GIm} {I J : Nat → Nat → Prop} {h h' : AH} (M : MI s y hs w tp nt fa fb im h) (e : Fr I J h h') (hi : ∀ a k, I a k → (a = 88 ∧ (k = 0 ∨ k = 5)) ∨ a = 91 ∨ (92 ≤ a ∧ a ≤ 104)) (X' : MTs w' h') (t' : TM tp' nt' h') : MI s y hs w' tp' nt' fa fb im h' := by
  have i : ∀ x k, ((x = 88 ∧ k ≠ 0 ∧ k ≠ 5) ∨ x = 89 ∨ x = 90) → ivA h' x k = ivA h x k := fun x k z => e.2.2.2.2.2.1 x k (fun w => by have := hi x k w; omega)
  exact ⟨M.B.scr e (fun k _ w => by have := hi _ _ w; omega), X', t', by rw [i _ _ (by omega)]; exact M.f, by rw [i _ _ (by omega)]; exact M.g, fun j hj' => (M.i j hj').of (fun k k1 _ => i _ _ (by omega)) (i _ _ (by omega))⟩
theorem op_feed {L : Nat} {xs : Nat → Int32} {c : Nat} {h : AH} (I : Inv L xs c h) (c5 : c ≤ 600) (a0 a1 a2 a3 a4 : Int32) : OpI L xs c m_X_feed m_M_feed [.int a0, .int a1, .int a2, .int a3, .int a4] h := by
  obtain ⟨T, R, s, p, y, v, hs, nx, w, tp, nt, fa, fb, im, C, M, W, O, S, hv, B⟩ := I
  have F := C.X.B.F
  by_cases q : nt + 20 ≤ 900
  · refine ⟨_, (X_feed_g F C.tx q a0 a1 a2 a3 a4).mono (by omega) (fun h1 z => ?_)⟩
    obtain ⟨e, t1⟩ := z
    have hi : ∀ a k, ITp a k → (a = 1 ∧ k = 1) ∨ a = 2 ∨ (74 ≤ a ∧ a ≤ 81) := fun a k z => by unfold ITp at z; omega
    have C1 := C.t e hi (fun _ _ z => z.elim) (C.ts.fr e (fun a k h1 h2 => ⟨fun z => by unfold ITp at z; omega, fun z => z⟩)) t1
    have eN : FN (fun x => x = 1 ∨ x = 2) h h1 := e.fn (fun a k z => by unfold ITp at z; omega) (fun _ _ z => z.elim)
    have F1' := e.fix F
    have M1 := M.fn (A := fun x => x = 1 ∨ x = 2) (fun x z => by omega) eN F1'
    have O1 := O.fn eN (fun x z => by omega)
    have S1 := S.fn eN (fun x z => by omega)
    refine ⟨S1, F1', (M_feed_g F1' M1.tm q a0 a1 a2 a3 a4).mono (by omega) (fun h3 z => ?_)⟩
    obtain ⟨e3, t3⟩ := z
    have M3 := M1.t e3 (fun a k z => by unfold ITm at z; omega) (M1.ts.fr e3 (fun a k h1 h2 => ⟨fun z => by unfold ITm at z; omega, fun z => z⟩)) t3
    refine Inv.of C1.1 e3 (fun a k z => by unfold ITm at z; omega) (fun _ _ z => z.elim) M3 W O1 S1 (by omega) ?_
    unfold RB at *
    rw [C1.2, e.2.2.2.1, e.2.2.2.2.1]
    omega
  · exact opq C M W O S hv B c5 (by omega) (by omega) ((X_feed_no F C.tx q a0 a1 a2 a3 a4).mono (Nat.le_refl _) (fun h1 e => by rw [e]; exact qx_rfl C.X)) (fun h1 M1 => (M_feed_no M1.B.M.fix M1.tm q a0 a1 a2 a3 a4).mono (Nat.le_refl _) (fun h3 e => Or.inl (qm_0 e)))
/-- behind a change of the trays -/
theorem Inv.tr {T : Nat → Nat} {R : Nat → ST} {s : ST} {p : Nat} {y : DY} {v : Int} {hs : List DY} {nx : Nat} {w w' : TW} {tp : Nat → Nat} {nt : Nat} {fa fb : Int32} {im : GIm} {L : Nat} {xs : Nat → Int32} {c : Nat} {I J : Nat → Nat → Prop} {h h1 : AH} (C : CI T R s p y v hs nx w tp nt fa fb im h) (M : MI s y hs w tp nt fa fb im h) (W' : WTs w') (O : OX h) (S : Scr L xs h) (hv : v ≤ 50 * c) (B : RB c nt h) (e : Fr I J h h1) (hi : ∀ a k, I a k → 74 ≤ a ∧ a ≤ 81) (hj : ∀ a k, J a k → 74 ≤ a ∧ a ≤ 81) (X' : XTs w' h1) : Scr L xs h1 ∧ Fix h1 ∧ MI s y hs w tp nt fa fb im h1 ∧ ∀ (I3 J3 : Nat → Nat → Prop) h3, Fr I3 J3 h1 h3 → (∀ a k, I3 a k → (a = 88 ∧ k = 0) ∨ (92 ≤ a ∧ a ≤ 104)) → (∀ a k, J3 a k → 88 ≤ a ∧ a ≤ 105) → MTs w' h3 → Inv L xs (c + 1) h3 := by
  have F := C.X.B.F
  have iv : ∀ x k, (x = 1 ∨ x = 2) → ivA h1 x k = ivA h x k := fun x k hx => e.2.2.2.2.2.1 x k (fun z => by have := hi x k z; omega)
  have C1 := C.t e (fun a k z => Or.inr (Or.inr (hi a k z))) hj X' (tp' := tp) (nt' := nt) ⟨C.tx.le, by rw [iv _ _ (by omega)]; exact C.tx.i, fun k hk => by rw [iv _ _ (by omega)]; exact C.tx.v k hk⟩
  have eN : FN (fun x => 74 ≤ x ∧ x ≤ 81) h h1 := e.fn hi hj
  have F1' := e.fix F
  have M1 := M.fn (A := fun x => 74 ≤ x ∧ x ≤ 81) (fun x z => by omega) eN F1'
  have O1 := O.fn eN (fun x z => by omega)
  have S1 := S.fn eN (fun x z => by omega)
  refine ⟨S1, F1', M1, fun I3 J3 h3 e3 hi3 hj3 X3 => ?_⟩
  have iv3 : ∀ x k, ((x = 88 ∧ k ≠ 0) ∨ x = 91) → ivA h3 x k = ivA h1 x k := fun x k hx => e3.2.2.2.2.2.1 x k (fun z => by have := hi3 x k z; omega)
  have M3 := M1.t e3 (fun a k z => by have := hi3 a k z; omega) X3 (tp' := tp) (nt' := nt) ⟨M1.tm.le, by rw [iv3 _ _ (by omega)]; exact M1.tm.i, fun k hk => by rw [iv3 _ _ (by omega)]; exact M1.tm.v k hk, M1.tm.b⟩
  refine Inv.of C1.1 e3 (fun a k z => by have := hi3 a k z; omega) hj3 M3 W' O1 S1 (by omega) ?_
  unfold RB at *
  rw [C1.2, e.2.2.2.1, e.2.2.2.2.1]
  omega
theorem op_numbers {L : Nat} {xs : Nat → Int32} {c : Nat} {h : AH} (I : Inv L xs c h) (c5 : c ≤ 600) (a0 a1 a2 : Int32) : OpI L xs c m_X_numbers m_M_numbers [.int a0, .int a1, .int a2] h := by
  obtain ⟨T, R, s, p, y, v, hs, nx, w, tp, nt, fa, fb, im, C, M, W, O, S, hv, B⟩ := I
  obtain ⟨ea0, la0, ua0⟩ := int_b a0
  obtain ⟨ea1, la1, ua1⟩ := int_b a1
  obtain ⟨ea2, la2, ua2⟩ := int_b a2
  rw [ea0, ea1, ea2]
  by_cases q : (0 ≤ a0.toInt ∧ a0.toInt < 4) ∧ (0 ≤ a1.toInt ∧ a1.toInt ≤ 3) ∧ (0 ≤ a2.toInt ∧ a2.toInt ≤ 40)
  · obtain ⟨A, hA⟩ : ∃ A : Nat, a0.toInt = A := ⟨a0.toInt.toNat, by omega⟩
    obtain ⟨A1, hA1⟩ : ∃ A : Nat, a1.toInt = A := ⟨a1.toInt.toNat, by omega⟩
    obtain ⟨A2, hA2⟩ : ∃ A : Nat, a2.toInt = A := ⟨a2.toInt.toNat, by omega⟩
    rw [hA, hA1, hA2] at q ⊢
    have W' : WTs (upT w A A1 A2 (fun _ => 0)) := upT_w W ⟨by omega, by omega, by omega, fun i => by dsimp only; omega⟩
    refine ⟨_, (X_numbers_g C.X.B C.ts (t := A) (so := A1) (n := A2) (by omega) (by omega) (by omega)).mono (by omega) (fun h1 z => ?_)⟩
    obtain ⟨S1, F1', M1, fin⟩ := Inv.tr C M W' O S hv B z.1 (fun _ _ z => z) (fun _ _ z => z) z.2
    refine ⟨S1, F1', (M_numbers_g M1.B M1.ts W (t := A) (so := A1) (n := A2) (by omega) (by omega) (by omega)).mono (by omega) (fun h3 z3 => ?_)⟩
    exact fin _ _ h3 z3.1 (fun a k z => by unfold IT at z; omega) (fun a k z => by omega) z3.2
  · exact opq C M W O S hv B c5 (by omega) (by omega) ((X_numbers_no la0 ua0 la1 ua1 la2 ua2 q).mono (Nat.le_refl _) (fun h1 e => by rw [e]; exact qx_rfl C.X)) (fun h1 M1 => (M_numbers_no M1.B.M.fix la0 ua0 la1 ua1 la2 ua2 q).mono (Nat.le_refl _) (fun h3 e => Or.inl (qm_0 e)))
theorem op_write {L : Nat} {xs : Nat → Int32} {c : Nat} {h : AH} (I : Inv L xs c h) (c5 : c ≤ 600) (a0 a1 : Int32) (x : Int64) : OpJ L xs c m_X_write m_M_write [.int a0, .int a1, .long x] h := by
  obtain ⟨T, R, s, p, y, v, hs, nx, w, tp, nt, fa, fb, im, C, M, W, O, S, hv, B⟩ := I
  obtain ⟨ea0, la0, ua0⟩ := int_b a0
  obtain ⟨ea1, la1, ua1⟩ := int_b a1
  rw [ea0, ea1]
  by_cases q : wrOk w a0.toInt a1.toInt
  · have q' := q
    unfold wrOk at q'
    obtain ⟨A, hA⟩ : ∃ A : Nat, a0.toInt = A := ⟨a0.toInt.toNat, by omega⟩
    obtain ⟨A1, hA1⟩ : ∃ A : Nat, a1.toInt = A := ⟨a1.toInt.toNat, by omega⟩
    rw [hA, hA1, Int.toNat_natCast] at q'
    rw [hA, hA1]
    have ht : A < 4 := by omega
    have Wt := W A ht
    have W' : WTs (upT w A (w.1 A) (w.2.1 A) (fun j => if j = A1 then (cutF (w.1 A) x).toInt else w.2.2 A j)) := upT_w W ⟨Wt.1, Wt.2.1, Wt.2.2.1, fun i => by
      dsimp only
      split
      · have h1 := Int64.le_toInt (cutF (w.1 A) x)
        have h2 := Int64.toInt_lt (cutF (w.1 A) x)
        omega
      · exact Wt.2.2.2 i⟩
    refine ⟨_, (X_write_g C.X.B C.ts W ht q'.2.1 (i := A1) (by omega) x).mono (by omega) (fun h1 z => ?_)⟩
    obtain ⟨S1, F1', M1, fin⟩ := Inv.tr C M W' O S hv B z.1 (fun _ _ z => z.elim) (fun _ _ z => z) z.2
    refine ⟨S1, F1', (M_write_g M1.B M1.ts W ht q'.2.1 (i := A1) (by omega) x).mono (by omega) (fun h3 z3 => ?_)⟩
    exact fin _ _ h3 z3.1 (fun a k z => by unfold IT at z; omega) (fun a k z => by omega) z3.2
  · exact opqJ C M W O S hv B c5 (by omega) (by omega) ((X_write_no C.X.B C.ts W la0 ua0 la1 ua1 q x).mono (Nat.le_refl _) (fun h1 e => by rw [e]; exact qx_rfl C.X)) (fun h1 M1 => (M_write_no M1.B M1.ts W la0 ua0 la1 ua1 q x).mono (Nat.le_refl _) (fun h3 e => qm_0 e))
theorem op_lists {L : Nat} {xs : Nat → Int32} {c : Nat} {h : AH} (I : Inv L xs c h) (c5 : c ≤ 600) (a0 a1 : Int32) : OpI L xs c m_X_lists m_M_lists [.int a0, .int a1] h := by
  obtain ⟨T, R, s, p, y, v, hs, nx, w, tp, nt, fa, fb, im, C, M, W, O, S, hv, B⟩ := I
  obtain ⟨ea0, la0, ua0⟩ := int_b a0
  obtain ⟨ea1, la1, ua1⟩ := int_b a1
  rw [ea0, ea1]
  by_cases q : lisOk s w a0.toInt a1.toInt
  · have q' := q
    unfold lisOk at q'
    obtain ⟨A, hA⟩ : ∃ A : Nat, a0.toInt = A := ⟨a0.toInt.toNat, by omega⟩
    obtain ⟨A1, hA1⟩ : ∃ A : Nat, a1.toInt = A := ⟨a1.toInt.toNat, by omega⟩
    rw [hA, hA1, Int.toNat_natCast] at q'
    rw [hA, hA1]
    have ht : A < 4 := by omega
    have Wt := W A ht
    have wf := C.X.B.S.wf
    have W' : WTs (upT w A (w.1 A) (w.2.1 A) (lisF s y w A A1)) := upT_w W ⟨Wt.1, Wt.2.1, Wt.2.2.1, fun i => by
      unfold lisF
      split
      · rename_i z
        have l1 : i < (paF s y A1 A1 1 0).length := by unfold lisN at z; split at z <;> omega
        have := pa_get wf l1
        have := wf.n12
        omega
      · exact Wt.2.2.2 i⟩
    refine ⟨_, (X_lists_g C.X C.ts W ht q'.2 (a := A1) (by omega)).mono (by omega) (fun h1 z => ?_)⟩
    obtain ⟨e, F1', rm, P1, X1⟩ := z
    have F := C.X.B.F
    have t := C.X.B.t
    have B2 := B.2
    have aq : ∀ x, APt T x → AQ T x := fun x z => by rcases z with z | z | z; exact Or.inl z; exact Or.inr (Or.inr (Or.inl (by omega))); exact Or.inr (Or.inr (Or.inr z))
    have out : ∀ x, (APt T x ∨ (74 ≤ x ∧ x ≤ 81)) → x ≤ 105 → x = 5 ∨ (10 ≤ x ∧ x ≤ 13) ∨ (44 ≤ x ∧ x ≤ 72) ∨ (74 ≤ x ∧ x ≤ 81) := fun x z hx => by
      rcases z with z | z
      · have := AQ_out t (aq x z) hx; omega
      · omega
    have lt : ∀ x, (APt T x ∨ (74 ≤ x ∧ x ≤ 81)) → x < 1000000 := fun x z => by
      rcases z with z | z
      · exact AQ_lt C.X.I.td C.X.hz (aq x z)
      · omega
    have n0 : ∀ x, (APt T x ∨ (74 ≤ x ∧ x ≤ 81)) → T x ≠ 0 := fun x z => by
      rcases z with z | z
      · exact AQ_T t (aq x z)
      · rw [t.two (a := x) (by omega) (by omega)]; omega
    have no : ∀ x, x ≤ 105 → ¬ (x = 5 ∨ (10 ≤ x ∧ x ≤ 13) ∨ (44 ≤ x ∧ x ≤ 72) ∨ (74 ≤ x ∧ x ≤ 81)) → ¬ (APt T x ∨ (74 ≤ x ∧ x ≤ 81)) := fun x hx z y => z (out x y hx)
    have far : ∀ x, (APt T x ∨ (74 ≤ x ∧ x ≤ 81)) → 105 < x ∨ x = 5 ∨ (10 ≤ x ∧ x ≤ 13) ∨ (44 ≤ x ∧ x ≤ 72) ∨ (74 ≤ x ∧ x ≤ 81) := fun x z => by
      by_cases hx : x ≤ 105
      · exact Or.inr (out x z hx)
      · exact Or.inl (by omega)
    have i1 := e.iv 1 (oldF F (by omega)) (no 1 (by omega) (by omega))
    have i2 := e.iv 2 (oldF F (by omega)) (no 2 (by omega) (by omega))
    have i36 := e.iv 36 (oldF F (by omega)) (no 36 (by omega) (by omega))
    have C1 : CI T R s p y v hs nx (upT w A (w.1 A) (w.2.1 A) (lisF s y w A A1)) tp nt fa fb im h1 := by
      refine ⟨⟨C.X.B.fn e F1' n0 (fun a z => by have := far a z; omega), P1, C.X.v0, C.X.v1, by have := rm.2; omega⟩, X1, ⟨C.tx.le, by rw [i1]; exact C.tx.i, fun k hk => by rw [i2]; exact C.tx.v k hk⟩, ?_, by rw [i36]; exact C.f, by rw [i36]; exact C.g, fun i hi => (C.i i hi).fn F hi e n0 (fun a z => by have := far a z; omega)⟩
      obtain ⟨k, k9, ek⟩ := C.z
      exact ⟨k, k9, by rw [i36]; exact ek⟩
    have nm : NM (fun x => APt T x ∨ (74 ≤ x ∧ x ≤ 81)) := fun x z => by have := far x z; have := lt x z; omega
    have M1 := M.fn nm e F1'
    have O1 := O.fn e lt
    have S1 := S.fn e lt
    have B1 : RB (c + 1) nt h1 := by
      have r1 := rm.1
      have r2 := rm.2
      unfold RB at *
      omega
    refine ⟨S1, F1', (M_lists_g M1.B.M M1.ts W ht q'.2 (a := A1) (by omega)).mono (by omega) (fun h3 z3 => ?_)⟩
    obtain ⟨e3, X3⟩ := z3
    have iv3 : ∀ x k, ((x = 88 ∧ k ≠ 0) ∨ x = 91) → ivA h3 x k = ivA h1 x k := fun x k hx => e3.2.2.2.2.2.1 x k (fun z => by unfold IM at z; omega)
    have M3 := M1.t e3 (fun a k z => by unfold IM at z; omega) X3 (tp' := tp) (nt' := nt) ⟨M1.tm.le, by rw [iv3 _ _ (by omega)]; exact M1.tm.i, fun k hk => by rw [iv3 _ _ (by omega)]; exact M1.tm.v k hk, M1.tm.b⟩
    exact Inv.of C1 e3 (fun a k z => by unfold IM at z; omega) (fun a k z => by omega) M3 W' O1 S1 (by omega) B1
  · exact opq C M W O S hv B c5 (by omega) (by omega) ((X_lists_no C.X.B C.ts W la0 ua0 la1 ua1 q).mono (Nat.le_refl _) (fun h1 e => by rw [e]; exact qx_rfl C.X)) (fun h1 M1 => (M_lists_no M1.B.M M1.ts W la0 ua0 la1 ua1 q).mono (Nat.le_refl _) (fun h3 e => Or.inl (qm_0 e)))
theorem PI.sw {T : Nat → Nat} {R : Nat → ST} {s s' : ST} {p p' : Nat} {y y' : DY} {v v' : Int} {h : AH} (I : PI T R s p y v h) (rp : R p' = s') (hp : p' < 1000000) (hv : v < v') : PI T R s' p' y' v' h := by
  obtain ⟨pv, c1, c2, c3, _⟩ := I.pc
  obtain ⟨cv, d1, d2, d3, _⟩ := I.cc
  exact ⟨I.pm, rp, hp, I.X, I.td, ⟨pv, c1, c2, by omega, fun q => by omega⟩, ⟨cv, d1, d2, by omega, fun q => by omega⟩⟩
theorem op_image {L : Nat} {xs : Nat → Int32} {c : Nat} {h : AH} (I : Inv L xs c h) (c5 : c ≤ 600) (a0 : Int32) : OpI L xs c m_X_image m_M_image [.int a0] h := by
  obtain ⟨T, R, s, p, y, v, hs, nx, w, tp, nt, fa, fb, im, C, M, W, O, S, hv, B⟩ := I
  obtain ⟨ea0, la0, ua0⟩ := int_b a0
  rw [ea0]
  have F := C.X.B.F
  have t := C.X.B.t
  by_cases q : 0 ≤ a0.toInt ∧ a0.toInt ≤ 1
  · obtain ⟨A, hA⟩ : ∃ A : Nat, a0.toInt = A := ⟨a0.toInt.toNat, by omega⟩
    rw [hA] at q ⊢
    have hi : A < 2 := by omega
    refine ⟨_, (X_image_g C.X.B hi).mono (by omega) (fun h1 z => ?_)⟩
    obtain ⟨e, sz, us, B', r1, r2, Q1⟩ := z
    have F1' := B'.F
    have out : ∀ x, AIm A x → 82 ≤ x ∧ x ≤ 87 := fun x z => by unfold AIm at z; omega
    have tw : ∀ x, AIm A x → T x = 2 := fun x z => t.two (a := x) (by have := out x z; omega) (by have := out x z; omega)
    have P := C.X.I.fn F t e F1' (fun x z => Or.inr ⟨by rw [tw x z]; omega, by have := out x z; omega, by have := out x z; omega⟩)
    have no : ∀ x, x ≤ 81 → ¬ AIm A x := fun x hx z => by have := out x z; omega
    have i1 := e.iv 1 (oldF F (by omega)) (no 1 (by omega))
    have i2 := e.iv 2 (oldF F (by omega)) (no 2 (by omega))
    have i36 := e.iv 36 (oldF F (by omega)) (no 36 (by omega))
    have pz := C.X.B.S.bp
    have C1 : CI T R s p y v hs nx w tp nt fa fb (fun j => if j = A then some (p, s, y) else im j) h1 := by
      refine ⟨⟨B', P.1, C.X.v0, C.X.v1, by rw [sz]; exact C.X.hz⟩, C.ts.fn F e (fun a z => by have := out a z; omega), ⟨C.tx.le, by rw [i1]; exact C.tx.i, fun k hk => by rw [i2]; exact C.tx.v k hk⟩, ?_, by rw [i36]; exact C.f, by rw [i36]; exact C.g, fun i hi' => ?_⟩
      · obtain ⟨k, k9, ek⟩ := C.z
        exact ⟨k, k9, by rw [i36]; exact ek⟩
      · dsimp only
        by_cases z : i = A
        · rw [if_pos z, z]
          exact ⟨r1, by show p ≠ 0; omega, B'.S, Q1, C.X.I.rp⟩
        · rw [if_neg z]
          have X0 := C.i i hi'
          cases hm : im i with
          | none => rw [hm] at X0; show rvA h1 82 i = 0; rw [r2 i z]; exact X0
          | some o =>
            rw [hm] at X0
            obtain ⟨x1, x2, x3, x4, x5⟩ := X0
            exact ⟨by rw [r2 i z]; exact x1, x2, x3.fn e (fun a z => by rw [tw a z]; omega), x4.fn F e (by omega) (fun w => by unfold AIm at w; omega) (fun w => by unfold AIm at w; omega), x5⟩
    have nm : NM (AIm A) := fun x z => by have := out x z; omega
    have M1 := M.fn nm e F1'
    have O1 := O.fn e (fun x z => by have := out x z; omega)
    have S1 := S.fn e (fun x z => by have := out x z; omega)
    have B1 : RB (c + 1) nt h1 := by
      unfold RB at *
      rw [P.2, sz, us]
      omega
    refine ⟨S1, F1', (M_image_g M1.B hi).mono (by omega) (fun h3 z3 => ?_)⟩
    obtain ⟨e3, B3, m1, m2, m3⟩ := z3
    have iv3 : ∀ x k, ((x = 88 ∧ k ≠ 0) ∨ x = 91) → ivA h3 x k = ivA h1 x k := fun x k hx => e3.2.2.2.2.2.1 x k (fun z => by unfold IIm at z; omega)
    have M3 : MI s y hs w tp nt fa fb (fun j => if j = A then some (p, s, y) else im j) h3 := by
      refine ⟨B3, M1.ts.fr e3 (fun a k h1 h2 => ⟨fun z => by unfold IIm at z; omega, fun z => z⟩), ⟨M1.tm.le, by rw [iv3 _ _ (by omega)]; exact M1.tm.i, fun k hk => by rw [iv3 _ _ (by omega)]; exact M1.tm.v k hk, M1.tm.b⟩, by rw [iv3 _ _ (by omega)]; exact M1.f, by rw [iv3 _ _ (by omega)]; exact M1.g, fun i hi' => ?_⟩
      dsimp only
      by_cases z : i = A
      · rw [if_pos z, z]
        exact ⟨m3, C.X.B.S.wf, C.X.B.wy, m1, m2⟩
      · rw [if_neg z]
        exact (M1.i i hi').of (fun k k1 k2 => e3.2.2.2.2.2.1 89 k (fun u => by
          unfold IIm at u
          have : i = 0 ∧ A = 1 ∨ i = 1 ∧ A = 0 := by omega
          rcases this with ⟨u1, u2⟩ | ⟨u1, u2⟩ <;> subst u1 u2 <;> omega)) (e3.2.2.2.2.2.1 90 i (fun u => by unfold IIm at u; omega))
    exact Inv.of C1 e3 (fun a k z => by unfold IIm at z; omega) (fun _ _ z => z.elim) M3 W O1 S1 (by omega) B1
  · exact opq C M W O S hv B c5 (by omega) (by omega) ((X_image_no la0 ua0 (by omega)).mono (Nat.le_refl _) (fun h1 e => by rw [e]; exact qx_rfl C.X)) (fun h1 M1 => (M_image_no M1.B.M.fix la0 ua0 (by omega)).mono (Nat.le_refl _) (fun h3 e => Or.inl (qm_0 e)))
theorem op_restore {L : Nat} {xs : Nat → Int32} {c : Nat} {h : AH} (I : Inv L xs c h) (c5 : c ≤ 600) (a0 : Int32) : OpI L xs c m_X_restore m_M_restore [.int a0] h := by
  obtain ⟨T, R, s, p, y, v, hs, nx, w, tp, nt, fa, fb, im, C, M, W, O, S, hv, B⟩ := I
  obtain ⟨ea0, la0, ua0⟩ := int_b a0
  rw [ea0]
  have F := C.X.B.F
  have t := C.X.B.t
  by_cases q : 0 ≤ a0.toInt ∧ a0.toInt ≤ 1
  · obtain ⟨A, hA⟩ : ∃ A : Nat, a0.toInt = A := ⟨a0.toInt.toNat, by omega⟩
    rw [hA] at q ⊢
    have hi : A < 2 := by omega
    have XA := C.i A hi
    have MA := M.i A hi
    cases hm : im A with
    | none =>
      rw [hm] at XA MA
      refine opq (dM := 2) C M W O S hv B c5 (by omega) (by omega) ((X_restore_none F hi XA).mono (Nat.le_refl _) (fun h1 e => by rw [e]; exact qx_rfl C.X)) (fun h1 M1 => ?_)
      have MA1 := M1.i A hi
      rw [hm] at MA1
      exact (M_restore_none M1.B.M.fix hi MA1).mono (Nat.le_refl _) (fun h3 e => Or.inl (qm_0 e))
    | some o =>
      rw [hm] at XA MA
      obtain ⟨x1, x2, x3, x4, x5⟩ := XA
      obtain ⟨m1, m2, m3, m4, m5⟩ := MA
      refine ⟨_, (X_restore_g C.X.B hi x1 x2 x3 x4 m3).mono (by omega) (fun h1 z => ?_)⟩
      obtain ⟨e, sz, us, iv1, B'⟩ := z
      have F1' := B'.F
      have out : ∀ x, ARe x → x = 1 ∨ x = 8 ∨ x = 9 ∨ x = 14 := fun x z => z
      have tw : ∀ x, ARe x → T x = 2 := fun x z => t.two (a := x) (by have := out x z; omega) (by have := out x z; omega)
      have P := C.X.I.fn F t e F1' (fun x z => Or.inr ⟨by rw [tw x z]; omega, by have := out x z; omega, by have := out x z; omega⟩)
      have bp := x3.bp
      have hz0 := C.X.hz
      have P' : PI T R o.2.1 o.1 o.2.2 (v + 1) h1 := P.1.sw x5 (by omega) (by omega)
      have i2 := e.iv 2 (oldF F (by omega)) (fun z => by have := out _ z; omega)
      have i36 := e.iv 36 (oldF F (by omega)) (fun z => by have := out _ z; omega)
      have C1 : CI T R o.2.1 o.1 o.2.2 (v + 1) [] nx w tp nt fa fb im h1 := by
        have v0 := C.X.v0
        refine ⟨⟨B', P', by omega, by omega, by rw [sz]; exact C.X.hz⟩, C.ts.fn F e (fun a z => by have := out a z; omega), ⟨C.tx.le, by rw [iv1]; exact C.tx.i, fun k hk => by rw [i2]; exact C.tx.v k hk⟩, ?_, by rw [i36]; exact C.f, by rw [i36]; exact C.g, fun i hi' => (C.i i hi').fn F hi' e (fun a z => by rw [tw a z]; omega) (fun a z => by have := out a z; omega)⟩
        obtain ⟨k, k9, ek⟩ := C.z
        exact ⟨k, k9, by rw [i36]; exact ek⟩
      have nm : NM ARe := fun x z => by have := out x z; omega
      have M1 := M.fn nm e F1'
      have O1 := O.fn e (fun x z => by have := out x z; omega)
      have S1 := S.fn e (fun x z => by have := out x z; omega)
      have B1 : RB (c + 1) nt h1 := by
        unfold RB at *
        rw [P.2, sz, us]
        omega
      have MA1 := M1.i A hi
      rw [hm] at MA1
      obtain ⟨k1, k2, k3, k4, k5⟩ := MA1
      refine ⟨S1, F1', (M_restore_g M1.B hi k1 k2 k3 k4 k5).mono (by omega) (fun h3 z3 => ?_)⟩
      obtain ⟨e3, B3⟩ := z3
      exact Inv.of C1 e3 (fun a k z => by unfold IRe at z; omega) (fun _ _ z => z.elim) (M1.fr e3 (fun a k z => by unfold IRe at z; unfold IQ; omega) (fun _ _ z => z.elim) B3) W O1 S1 (by omega) B1
  · exact opq C M W O S hv B c5 (by omega) (by omega) ((X_restore_no la0 ua0 (by omega)).mono (Nat.le_refl _) (fun h1 e => by rw [e]; exact qx_rfl C.X)) (fun h1 M1 => (M_restore_no M1.B.M.fix la0 ua0 (by omega)).mono (Nat.le_refl _) (fun h3 e => Or.inl (qm_0 e)))
/-! a text tells no history -/
theorem lin_29 {tp : Nat → Nat} {n a : Nat} {g : LG} {cs : List Nat} {q : Nat × LG × List Nat} (G : GW g) (e : linF tp n a g cs = .ok q) : q.2.1 29 = g 29 := by
  obtain ⟨R, W, H, D, h1, h2, h3, h4, r1, w1, rw12, h5⟩ := G
  unfold linF at e
  by_cases q1 : tKd tp n a = 1
  · rw [if_pos q1] at e
    unfold rowF at e
    rw [h1, h2, Int.toNat_natCast, Int.toNat_natCast] at e
    cases ht : tkF tp n 0 (R - 1) (nxA tp n a) with
    | error x => rw [ht] at e; cases e
    | ok p =>
      rw [ht] at e
      dsimp only at e
      have t := tkF_ok (b := p.1) (v := p.2) ht
      have hi : W * p.2 + W ≤ 12 := by
        have : W * (p.2 + 1) ≤ W * R := Nat.mul_le_mul_left W (by omega)
        rw [Nat.mul_add, Nat.mul_one, Nat.mul_comm W R] at this
        omega
      have rl : ∀ m k b g', m + k ≤ W → g' 29 = g 29 → rlF tp n W p.2 cs m k b g' = .ok q → q.2.1 29 = g 29 := by
        intro m
        induction m with
        | zero =>
          intro k b g' _ hg e
          rw [rlF] at e
          injection e with e
          subst e
          exact hg
        | succ m ih =>
          intro k b g' hk hg e
          rw [rlF] at e
          cases hu : tkF tp n 0 8 b with
          | error x => rw [hu] at e; cases e
          | ok p2 =>
            rw [hu] at e
            exact ih (k + 1) p2.1 _ (by omega) (by rw [upG_ne (by omega)]; exact hg) e
      exact rl W 0 p.1 g (by omega) rfl e
  rw [if_neg q1] at e
  by_cases q2 : tKd tp n a = 2
  · rw [if_pos q2] at e
    unfold hanF at e
    rw [h3] at e
    by_cases z : (H : Int) = 4
    · rw [if_pos z] at e; cases e
    · rw [if_neg z, Int.toNat_natCast] at e
      have hb : ∀ f b g', g' 29 = g 29 → hbF tp n H cs f b g' = .ok q → q.2.1 29 = g 29 := by
        intro f
        induction f with
        | zero => intro b g' _ e; rw [hbF] at e; cases e
        | succ f ih =>
          intro b g' hg e
          rw [hbF] at e
          by_cases y : tKd tp n b = 3
          · rw [if_pos y] at e
            cases hu : tkF tp n 0 9 (nxA tp n b) with
            | error x => rw [hu] at e; cases e
            | ok p2 =>
              rw [hu] at e
              exact ih p2.1 _ (by rw [upG_ne (by omega)]; exact hg) e
          · rw [if_neg y] at e
            injection e with e
            subst e
            dsimp only
            rw [upG_ne (by omega)]
            exact hg
      exact hb _ _ g rfl e
  rw [if_neg q2] at e
  by_cases q3 : tKd tp n a = 4 ∨ tKd tp n a = 5
  · rw [if_pos q3] at e
    unfold drwF at e
    cases ht : tkF tp n 0 ((g 1).toNat * (g 2).toNat - 1) (nxA tp n a) with
    | error x => rw [ht] at e; cases e
    | ok p =>
      rw [ht] at e
      injection e with e
      subst e
      dsimp only
      split
      · rw [upG_ne (by omega), upG_ne (by omega)]
      · rw [upG_ne (by omega)]
  rw [if_neg q3] at e
  by_cases q4 : tKd tp n a = 6 ∨ tKd tp n a = 7
  · rw [if_pos q4] at e
    unfold lawF at e
    by_cases z : tKd tp n (nxA tp n a) = 31
    · rw [if_pos z] at e
      cases hr : PP tp n (tKd tp n a - 6) (7 * n + 7) (if tKd tp n a - 6 = 1 then 3 else 9) 0 (nxA tp n (nxA tp n a)) cs with
      | error x => rw [hr] at e; cases e
      | ok p =>
        rw [hr] at e
        injection e with e
        subst e
        dsimp only
        rw [upG_ne (by omega), upG_ne (by omega), upG_ne (by omega)]
    · rw [if_neg z] at e; cases e
  rw [if_neg q4] at e
  cases e
theorem end_29 {tp : Nat → Nat} {n a : Nat} {g : LG} {cs : List Nat} {q : Nat × LG × List Nat} (e : endF tp n a g cs = .ok q) : q.2.1 29 = g 29 := by
  unfold endF at e
  by_cases z : tKd tp n a = 30
  · rw [if_pos z] at e
    injection e with e
    subst e
    dsimp only
    rw [upG_ne (by omega)]
  · rw [if_neg z] at e; cases e
theorem lns_29 {tp : Nat → Nat} {n : Nat} : ∀ f a g cs q, GX g cs a → cs.length ≤ a → lnsF tp n f a g cs = .ok q → q.2.1 29 = g 29 := by
  intro f
  induction f with
  | zero => intro a g cs q _ _ e; rw [lnsF] at e; cases e
  | succ f ih =>
    intro a g cs q G le e
    rw [lnsF] at e
    by_cases z : tKd tp n a = 24
    · rw [if_pos z] at e
      injection e with e
      subst e
      rfl
    · rw [if_neg z] at e
      obtain ⟨p, e1, e2⟩ := bnd_ok e
      obtain ⟨p2, e3, e4⟩ := bnd_ok e2
      have i1 := lin_ok (kd_n z) G.gw le e1
      have g1 := (lin_gx G e1).mono (a' := p.1) (by omega)
      have i2 := end_ok i1.2.2.1 i1.2.2.2 e3
      rw [ih p2.1 p2.2.1 p2.2.2 q (end_gx g1 e3) i2.2.2.2 e4, end_29 e3, lin_29 G.gw e1]
theorem sht_29 {tp : Nat → Nat} {n : Nat} {q : Nat × LG × List Nat} (e : shtF tp n = .ok q) : q.2.1 29 = 0 := by
  rw [sht_hd] at e
  obtain ⟨p, e1, e2⟩ := bnd_ok e
  obtain ⟨s4, cs0, gx, qn⟩ := hd0_ok e1
  rw [lns_29 _ _ _ _ _ gx (by rw [cs0]; show 0 ≤ p.1; omega) e2]
  unfold hd0F at e1
  by_cases z : tKd tp n (tAt tp n 0) = 0
  · rw [if_pos z] at e1
    unfold hdF at e1
    cases ht : tkF tp n 1 12 (nxA tp n (tAt tp n 0)) with
    | error x => rw [ht] at e1; cases e1
    | ok p1 =>
      rw [ht] at e1
      dsimp only at e1
      cases hu : tkF tp n 1 (12 / p1.2) p1.1 with
      | error x => rw [hu] at e1; cases e1
      | ok r =>
        rw [hu] at e1
        dsimp only at e1
        rw [end_29 e1, upG_ne (by omega), upG_ne (by omega)]
        rfl
  · rw [if_neg z] at e1; cases e1
/-! sheet, on both sides -/
theorem ShX.out {x : Nat} (z : A0 x ∨ x = 1 ∨ x = 8 ∨ x = 9 ∨ x = 14) : x = 1 ∨ x = 8 ∨ x = 9 ∨ x = 14 ∨ (36 ≤ x ∧ x ≤ 43) := by unfold A0 at z; omega
theorem XIm1.tg {T T' : Nat → Nat} {R R' : Nat → ST} {o : Option (Nat × ST × DY)} {i : Nat} {h : AH} (X : XIm1 T R o i h) (t : ∀ x, x ≤ szA h → T' x = T x) (r : ∀ x, x ≤ szA h → R' x = R x) : XIm1 T' R' o i h := by
  cases o with
  | none => exact X
  | some q =>
    obtain ⟨x1, x2, x3, x4, x5⟩ := X
    exact ⟨x1, x2, x3.tg t, x4, by rw [r _ x3.bp.2]; exact x5⟩
theorem op_sheet {L : Nat} {xs : Nat → Int32} {c : Nat} {h : AH} (I : Inv L xs c h) (c5 : c ≤ 600) (a0 : Int32) : OpI L xs c m_X_sheet m_M_sheet [.int a0] h := by
  obtain ⟨T, R, s, p, y, v, hs, nx, w, tp, nt, fa, fb, im, C, M, W, O, S, hv, B⟩ := I
  obtain ⟨ea0, la0, ua0⟩ := int_b a0
  rw [ea0]
  have F := C.X.B.F
  have t := C.X.B.t
  have s105 := F.2.2.2
  by_cases q : 0 ≤ a0.toInt ∧ a0.toInt ≤ nt
  · obtain ⟨n, hA⟩ : ∃ A : Nat, a0.toInt = A := ⟨a0.toInt.toNat, by omega⟩
    rw [hA] at q ⊢
    have hn : n ≤ nt := by omega
    have n9 := C.tx.le
    have B2 := B.2
    have B1 := B.1
    have tb : ∀ k, k < n → tp k < 256 := fun k hk => M.tm.b k (by omega)
    -- what both cases share
    have common : ∀ (T' : Nat → Nat) (R' : Nat → ST) (s' : ST) (p' : Nat) (y' : DY) (v' : Int) (hs' : List DY) (nx' : Nat) h1, (∀ x, x ≤ szA h → T' x = T x) → (∀ x, x ≤ szA h → R' x = R x) → v' ≤ v + 1 → ShX n (shtF tp n) h h1 → XI T' R' s' p' y' v' hs' nx' h1 → (∀ h3, ShM (shtF tp n) h1 h3 → BM s' y' hs' h3) → Scr L xs h1 ∧ Fix h1 ∧ GI 150 m_M_sheet (.ref 88 :: [.int (kI n)]) h1 (kI (shtA (shtF tp n))) (Inv L xs (c + 1)) := fun T' R' s' p' y' v' hs' nx' h1 tT tR hv' D X' hB => by
      have out : ∀ x, (A0 x ∨ x = 1 ∨ x = 8 ∨ x = 9 ∨ x = 14) → x = 1 ∨ x = 8 ∨ x = 9 ∨ x = 14 ∨ (36 ≤ x ∧ x ≤ 43) := fun x z => ShX.out z
      have e := D.N
      have tw : ∀ x, (A0 x ∨ x = 1 ∨ x = 8 ∨ x = 9 ∨ x = 14) → T' x = 2 := fun x z => by
        have := out x z
        rw [tT x (by omega), t.two (a := x) (by omega) (by omega)]
      have C1 : CI T' R' s' p' y' v' hs' nx' w tp 0 (kI (fltF (shtF tp n))) (kI (plcF (shtF tp n))) im h1 := by
        refine ⟨X', C.ts.fn F e (fun a z => by have := out a z; omega), ⟨by omega, D.tp, fun k hk => by omega⟩, D.Z, D.f, D.p, fun i hi => ((C.i i hi).tg tT tR).fn F hi e (fun a z => by rw [tw a z]; omega) (fun a z => by have := out a z; omega)⟩
      have nm : NM (fun x => A0 x ∨ x = 1 ∨ x = 8 ∨ x = 9 ∨ x = 14) := fun x z => by have := out x z; omega
      have M1 := M.fn nm e D.F
      have O1 := O.fn e (fun x z => by have := out x z; omega)
      have S1 := S.fn e (fun x z => by have := out x z; omega)
      refine ⟨S1, D.F, (M_sheet_g D.F O1 M1.tm hn).mono (by omega) (fun h3 z => ?_)⟩
      have B3 := hB h3 z
      obtain ⟨e3, t5, z3⟩ := z
      have f13 : ivA h3 88 13 = kI (fltF (shtF tp n)) ∧ ivA h3 88 14 = kI (plcF (shtF tp n)) := by
        cases hr : shtF tp n with
        | error x => rw [hr] at z3; exact ⟨z3.1, z3.2.1⟩
        | ok x => rw [hr] at z3; exact ⟨z3.1, z3.2.1⟩
      have M3 : MI s' y' hs' w tp 0 (kI (fltF (shtF tp n))) (kI (plcF (shtF tp n))) im h3 := by
        refine ⟨B3, M1.ts.fr e3 (fun a k h1 h2 => ⟨fun z => by omega, fun z => z⟩), ⟨by omega, t5, fun k hk => by omega, fun k hk => by omega⟩, f13.1, f13.2, fun i hi => (M1.i i hi).of (fun k k1 _ => e3.2.2.2.2.2.1 89 k (fun z => by omega)) (e3.2.2.2.2.2.1 90 i (fun z => by omega))⟩
      have us := D.us
      have sz := D.sz
      have ph := D.ph
      refine Inv.of C1 e3 (fun a k z => by omega) (fun _ _ z => z.elim) M3 W O1 S1 (by omega) ?_
      unfold RB
      omega
    cases hr : shtF tp n with
    | error e =>
      have HX := X_sheet_er C.X O C.tx hn tb C.z (by omega) hr
      refine ⟨_, HX.mono (by omega) (fun h1 z => ?_)⟩
      refine common T R s p y v hs nx h1 (fun _ _ => rfl) (fun _ _ => rfl) (by omega) z.1 z.2 (fun h3 z3 => ?_)
      obtain ⟨e3, t5, z3⟩ := z3
      rw [hr] at z3
      have out : ∀ x, (A0 x ∨ x = 1 ∨ x = 8 ∨ x = 9 ∨ x = 14) → x = 1 ∨ x = 8 ∨ x = 9 ∨ x = 14 ∨ (36 ≤ x ∧ x ≤ 43) := fun x z => ShX.out z
      have M1 := M.fn (fun x z => by have := out x z; omega) z.1.N z.1.F
      have BB := M1.B
      refine ⟨⟨e3.fix z.1.F, BB.M.wf, BB.M.wy, MSt_ext BB.M.2.2.2.1 z3.2.2, MDy_ext BB.M.2.2.2.2 z3.2.2⟩, ⟨BB.H.len, by rw [z3.2.2]; exact BB.H.i29, fun i hi k hk => by rw [z3.2.2]; exact BB.H.e i hi k hk⟩, BB.wh⟩
    | ok g =>
      have v1 := C.X.v0
      have HX := X_sheet_ok C.X O C.tx hn tb C.z (by omega) (by omega) hr
      refine ⟨_, HX.mono (by omega) (fun h1 z => ?_)⟩
      obtain ⟨D, T', R', p', tT, tR, X'⟩ := z
      have gx := sht_gx hr
      refine common T' R' _ p' _ (v + 1) [] nx h1 (fun x hx => tT x (Or.inl hx)) tR (by omega) D X' (fun h3 z3 => ?_)
      obtain ⟨e3, t5, z3⟩ := z3
      rw [hr] at z3
      obtain ⟨_, _, c1, c2⟩ := z3
      have mc := gx.1.mc (by omega) (by omega) (e3.fix D.F) c1 c2
      refine ⟨mc, ⟨by simp, ?_, fun i hi => absurd hi (Nat.not_lt_zero i)⟩, fun i hi => absurd hi (Nat.not_lt_zero i)⟩
      rw [c1 29 (by omega), sht_29 hr]
      rfl
  · exact opq C M W O S hv B c5 (by omega) (by omega) ((X_sheet_no F C.tx la0 ua0 q).mono (Nat.le_refl _) (fun h1 e => by rw [e]; exact qx_rfl C.X)) (fun h1 M1 => (M_sheet_no M1.B.M.fix M1.tm la0 ua0 q).mono (Nat.le_refl _) (fun h3 e => Or.inl (qm_0 e)))
