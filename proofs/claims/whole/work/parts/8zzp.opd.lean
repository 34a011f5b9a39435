/-! deeds, on both sides -/
theorem T1_out {T : Nat → Nat} (t : TF T) {x : Nat} (h : T x = 1) : x = 5 ∨ 105 < x := by
  by_cases q : x ≤ 105
  · have := AQ_out t (Or.inl h) q
    have a := t x q
    rw [h] at a
    by_cases q3 : x = 3 ∨ x = 6 ∨ x = 7
    · rw [if_pos q3] at a; omega
    · rw [if_neg q3] at a
      by_cases q5 : x = 5
      · exact Or.inl q5
      · rw [if_neg q5] at a; omega
  · omega
theorem T1_lt {T : Nat → Nat} {h0 : AH} (td : TD T h0) (hz : szA h0 < 900000) {x : Nat} (h : T x = 1) : x < 1000000 := AQ_lt td hz (Or.inl h)
theorem opd {T : Nat → Nat} {R : Nat → ST} {s : ST} {p : Nat} {y y' : DY} {v v' : Int} {hs hs' : List DY} {nx : Nat} {w : TW} {tp : Nat → Nat} {nt : Nat} {fa fb : Int32} {im : GIm} {L : Nat} {xs : Nat → Int32} {c : Nat} {h : AH} (C : CI T R s p y v hs nx w tp nt fa fb im h) (M : MI s y hs w tp nt fa fb im h) (W : WTs w) (O : OX h) (S : Scr L xs h) (hv : v ≤ 50 * c) (B : RB c nt h) (c5 : c ≤ 600) {uX uM dX dM : Nat} {as : List Value} {x : Int32} (hX : dX ≤ 150) (hM : dM ≤ 150) (vy : (v' = v ∧ y' = y) ∨ v < v') (v2 : v' ≤ v + 50) (HX : GI dX uX (.ref 1 :: as) h x (fun h1 => Fr (IXd T) JM h h1 ∧ ∃ nx', BX T s p y' v' hs' nx' h1)) (HM : ∀ h1, MI s y hs w tp nt fa fb im h1 → GI dM uM (.ref 88 :: as) h1 x (fun h3 => Fr IMd JM h1 h3 ∧ BM s y' hs' h3)) : OpI L xs c uX uM as h := by
  refine ⟨x, HX.mono hX (fun h1 Q => ?_)⟩
  obtain ⟨e, nx', B'⟩ := Q
  have F := C.X.B.F
  have t := C.X.B.t
  have F1' := B'.F
  have B2 := B.2
  have outI : ∀ a k, IXd T a k → (T a = 1 ∧ (a = 5 ∨ 105 < a) ∧ a < 1000000) ∨ (8 ≤ a ∧ a ≤ 35) := fun a k z => by
    unfold IXd IH at z
    rcases z with z | z | z
    · exact Or.inl ⟨z, T1_out t z, T1_lt C.X.I.td C.X.hz z⟩
    · exact Or.inr (by omega)
    · exact Or.inr (by omega)
  have eN : FN (fun a => (T a = 1 ∧ (a = 5 ∨ 105 < a) ∧ a < 1000000) ∨ (8 ≤ a ∧ a ≤ 35)) h h1 := e.fn outI (fun _ _ z => z.elim)
  have nm : NM (fun a => (T a = 1 ∧ (a = 5 ∨ 105 < a) ∧ a < 1000000) ∨ (8 ≤ a ∧ a ≤ 35)) := fun a z => by omega
  have lt : ∀ a, ((T a = 1 ∧ (a = 5 ∨ 105 < a) ∧ a < 1000000) ∨ (8 ≤ a ∧ a ≤ 35)) → a < 1000000 := fun a z => by omega
  have P := C.X.I.fr F t e (fun a k z => by
    rcases outI a k z with z | z
    · exact Or.inl z.1
    · exact Or.inr ⟨by rw [t.two (a := a) (by omega) (by omega)]; omega, by omega, by omega⟩) (fun _ _ z => z.elim)
  have P' : PI T R s p y' v' h1 := by
    rcases vy with ⟨z1, z2⟩ | z
    · rw [z1, z2]; exact P.1
    · exact P.1.up y' z
  have iv : ∀ a k, (a < 5 ∨ a = 6 ∨ a = 7 ∨ (35 < a ∧ a ≤ 105)) → ivA h1 a k = ivA h a k := fun a k ha => e.2.2.2.2.2.1 a k (fun z => by have := outI a k z; omega)
  have C1 : CI T R s p y' v' hs' nx' w tp nt fa fb im h1 := by
    have v0 := C.X.v0
    refine ⟨⟨B', P', by omega, by omega, by rw [e.2.2.2.1]; exact C.X.hz⟩, C.ts.fr e (fun a k h1 h2 => ⟨fun z => by have := outI a k z; omega, fun z => z⟩), ⟨C.tx.le, by rw [iv _ _ (by omega)]; exact C.tx.i, fun k hk => by rw [iv _ _ (by omega)]; exact C.tx.v k hk⟩, ?_, by rw [iv _ _ (by omega)]; exact C.f, by rw [iv _ _ (by omega)]; exact C.g, fun i hi => (C.i i hi).fn F hi eN (fun a z => ?_) (fun a z => by omega)⟩
    · obtain ⟨k, k9, ek⟩ := C.z
      exact ⟨k, k9, by rw [iv _ _ (by omega)]; exact ek⟩
    · rcases z with z | z
      · omega
      · rw [t.two (a := a) (by omega) (by omega)]; omega
  have M1 := M.fn nm eN F1'
  have O1 := O.fn eN lt
  have S1 := S.fn eN lt
  have B1 : RB (c + 1) nt h1 := by
    unfold RB at *
    rw [P.2, e.2.2.2.1, e.2.2.2.2.1]
    omega
  refine ⟨S1, F1', (HM h1 M1).mono hM (fun h3 z => ?_)⟩
  obtain ⟨e3, B3⟩ := z
  exact Inv.of C1 e3 (fun a k w => by unfold IMd IM at w; omega) (fun a k w => w.elim) (M1.fr e3 (fun a k w => by unfold IMd IM at w; unfold IQ; omega) (fun a k w => w.elim) B3) W O1 S1 (by omega) B1
theorem vy_if {P : Prop} [Decidable P] {v : Int} {y y' : DY} : ((if P then v + 1 else v) = v ∧ (if P then y' else y) = y) ∨ v < (if P then v + 1 else v) := by
  by_cases q : P
  · rw [if_pos q, if_pos q]; exact Or.inr (by omega)
  · rw [if_neg q, if_neg q]; exact Or.inl ⟨rfl, rfl⟩
theorem op_stroke {L : Nat} {xs : Nat → Int32} {c : Nat} {h : AH} (I : Inv L xs c h) (c5 : c ≤ 600) (a0 a1 : Int32) : OpI L xs c m_X_stroke m_M_stroke [.int a0, .int a1] h := by
  obtain ⟨T, R, s, p, y, v, hs, nx, w, tp, nt, fa, fb, im, C, M, W, O, S, hv, B⟩ := I
  obtain ⟨ea0, la0, ua0⟩ := int_b a0
  obtain ⟨ea1, la1, ua1⟩ := int_b a1
  rw [ea0, ea1]
  exact opd C M W O S hv B c5 (by omega) (by omega) vy_if (by split <;> omega) (X_stroke_g C.X.B la0 ua0 la1 ua1) (fun h1 M1 => M_stroke_g M1.B la0 ua0 la1 ua1)
theorem op_rub {L : Nat} {xs : Nat → Int32} {c : Nat} {h : AH} (I : Inv L xs c h) (c5 : c ≤ 600) (a0 : Int32) : OpI L xs c m_X_rub m_M_rub [.int a0] h := by
  obtain ⟨T, R, s, p, y, v, hs, nx, w, tp, nt, fa, fb, im, C, M, W, O, S, hv, B⟩ := I
  obtain ⟨ea0, la0, ua0⟩ := int_b a0
  rw [ea0]
  exact opd C M W O S hv B c5 (by omega) (by omega) vy_if (by split <;> omega) (X_rub_g C.X.B la0 ua0) (fun h1 M1 => M_rub_g M1.B la0 ua0)
theorem op_hide {L : Nat} {xs : Nat → Int32} {c : Nat} {h : AH} (I : Inv L xs c h) (c5 : c ≤ 600) (a0 : Int32) : OpI L xs c m_X_hide m_M_hide [.int a0] h := by
  obtain ⟨T, R, s, p, y, v, hs, nx, w, tp, nt, fa, fb, im, C, M, W, O, S, hv, B⟩ := I
  obtain ⟨ea0, la0, ua0⟩ := int_b a0
  rw [ea0]
  exact opd C M W O S hv B c5 (by omega) (by omega) vy_if (by split <;> omega) (X_hide_g C.X.B la0 ua0) (fun h1 M1 => M_hide_g M1.B la0 ua0)
theorem op_habit {L : Nat} {xs : Nat → Int32} {c : Nat} {h : AH} (I : Inv L xs c h) (c5 : c ≤ 600) (a0 a1 : Int32) : OpI L xs c m_X_habit m_M_habit [.int a0, .int a1] h := by
  obtain ⟨T, R, s, p, y, v, hs, nx, w, tp, nt, fa, fb, im, C, M, W, O, S, hv, B⟩ := I
  obtain ⟨ea0, la0, ua0⟩ := int_b a0
  obtain ⟨ea1, la1, ua1⟩ := int_b a1
  rw [ea0, ea1]
  exact opd C M W O S hv B c5 (by omega) (by omega) vy_if (by split <;> omega) (X_habit_g C.X.B la0 ua0 la1 ua1) (fun h1 M1 => M_habit_g M1.B la0 ua0 la1 ua1)
theorem op_undo {L : Nat} {xs : Nat → Int32} {c : Nat} {h : AH} (I : Inv L xs c h) (c5 : c ≤ 600) (a0 : Int32) : OpI L xs c m_X_undo m_M_undo [.int a0] h := by
  obtain ⟨T, R, s, p, y, v, hs, nx, w, tp, nt, fa, fb, im, C, M, W, O, S, hv, B⟩ := I
  obtain ⟨ea0, la0, ua0⟩ := int_b a0
  rw [ea0]
  exact opd C M W O S hv B c5 (by omega) (by omega) vy_if (by split <;> omega) (X_undo_g C.X.B la0 ua0) (fun h1 M1 => M_undo_g M1.B la0 ua0)
theorem tlF_0 {s : ST} {f : Nat → Int} : ∀ (m i : Nat) (y : DY), (tlF s f m i y).1 = i → (tlF s f m i y).2.1 = y
  | 0, i, y, _ => rfl
  | m + 1, i, y, h => by
    unfold tlF at h ⊢
    split at h
    · have := tlF_b (s := s) (f := f) m (i + 1) (dD y (f i))
      omega
    · rename_i q
      rw [if_neg q]
theorem ntF_b {s : ST} : ∀ (m : Nat) (x : Int32) (y : DY) (n : Nat), n ≤ (ntF s m x y n).2 ∧ (ntF s m x y n).2 ≤ n + m ∧ ((ntF s m x y n).2 = n → (ntF s m x y n).1 = y)
  | 0, x, y, n => ⟨Nat.le_refl _, Nat.le_refl _, fun _ => rfl⟩
  | m + 1, x, y, n => by
    unfold ntF
    split
    · have := ntF_b (s := s) m (ndF x).2 (dD y (ndF x).1) (n + 1)
      exact ⟨by omega, by omega, fun z => by omega⟩
    · have := ntF_b (s := s) m (ndF x).2 y n
      exact ⟨this.1, by omega, this.2.2⟩
theorem op_perform {L : Nat} {xs : Nat → Int32} {c : Nat} {h : AH} (I : Inv L xs c h) (c5 : c ≤ 600) (a0 : Int32) : OpI L xs c m_X_perform m_M_perform [.int a0] h := by
  obtain ⟨T, R, s, p, y, v, hs, nx, w, tp, nt, fa, fb, im, C, M, W, O, S, hv, B⟩ := I
  obtain ⟨ea0, la0, ua0⟩ := int_b a0
  rw [ea0]
  by_cases q : (0 ≤ a0.toInt ∧ a0.toInt < 4) ∧ w.1 a0.toInt.toNat ≠ -1
  · obtain ⟨A, hA⟩ : ∃ A : Nat, a0.toInt = A := ⟨a0.toInt.toNat, by omega⟩
    rw [hA] at q ⊢
    rw [Int.toNat_natCast] at q
    have ht : A < 4 := by omega
    have Wt := W A ht
    have tb := tlF_b (s := s) (f := w.2.2 A) (w.2.1 A) 0 y
    have n40 := Wt.2.2.1
    refine opd C M W O S hv B c5 (by omega) (by omega) ?_ (by omega) (X_perform_g C.X.B C.ts W ht q.2) (fun h1 M1 => M_perform_g M1.B M1.ts W ht q.2)
    by_cases z : (tlF s (w.2.2 A) (w.2.1 A) 0 y).1 = 0
    · exact Or.inl ⟨by rw [z]; omega, tlF_0 _ 0 y z⟩
    · exact Or.inr (by omega)
  · exact opq C M W O S hv B c5 (by omega) (by omega) ((X_perform_no C.X.B C.ts W la0 ua0 q).mono (Nat.le_refl _) (fun h1 e => by rw [e]; exact qx_rfl C.X)) (fun h1 M1 => (M_perform_no M1.B M1.ts W la0 ua0 q).mono (Nat.le_refl _) (fun h3 e => Or.inl (qm_0 e)))
theorem op_night {L : Nat} {xs : Nat → Int32} {c : Nat} {h : AH} (I : Inv L xs c h) (c5 : c ≤ 600) (a0 a1 : Int32) : OpI L xs c m_X_night m_M_night [.int a0, .int a1] h := by
  obtain ⟨T, R, s, p, y, v, hs, nx, w, tp, nt, fa, fb, im, C, M, W, O, S, hv, B⟩ := I
  obtain ⟨ea1, la1, ua1⟩ := int_b a1
  rw [ea1]
  by_cases q : 1 ≤ a1.toInt ∧ a1.toInt ≤ 40
  · obtain ⟨A, hA⟩ : ∃ A : Nat, a1.toInt = A := ⟨a1.toInt.toNat, by omega⟩
    rw [hA] at q ⊢
    have nb := ntF_b (s := s) A a0 y 0
    refine opd C M W O S hv B c5 (by omega) (by omega) ?_ (by omega) (X_night_g C.X.B a0 (n := A) (by omega) (by omega)) (fun h1 M1 => M_night_g M1.B a0 (n := A) (by omega) (by omega))
    by_cases z : (ntF s A a0 y 0).2 = 0
    · exact Or.inl ⟨by rw [z]; omega, nb.2.2 z⟩
    · exact Or.inr (by omega)
  · exact opq C M W O S hv B c5 (by omega) (by omega) ((X_night_no a0 la1 ua1 q).mono (Nat.le_refl _) (fun h1 e => by rw [e]; exact qx_rfl C.X)) (fun h1 M1 => (M_night_no M1.B.M.fix a0 la1 ua1 q).mono (Nat.le_refl _) (fun h3 e => Or.inl (qm_0 e)))
