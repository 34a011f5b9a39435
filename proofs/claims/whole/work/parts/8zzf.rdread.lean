/-! the class reads a line -/
theorem lin_same {tp : Nat → Nat} {n a : Nat} {g : LG} {cs : List Nat} {q : Nat × LG × List Nat} (G : GW g) (h6 : tKd tp n a ≠ 6 ∧ tKd tp n a ≠ 7) (e : linF tp n a g cs = .ok q) : (∀ i, 4 ≤ i → i ≤ 9 → q.2.1 i = g i) ∧ q.2.2 = cs := by
  obtain ⟨R, W, H, D, h1, h2, h3, h4, r1, w1, rw12, h5⟩ := G
  unfold linF at e
  by_cases q1 : tKd tp n a = 1
  · rw [if_pos q1] at e
    unfold rowF at e
    rw [h1, h2, Int.toNat_natCast, Int.toNat_natCast] at e
    cases ht : tkF tp n 0 (R - 1) (nxA tp n a) with
    | error x => rw [ht] at e; cases e
    | ok p =>
      rw [ht] at e
      dsimp only at e
      have rl : ∀ m k b g' , (∀ i, 4 ≤ i → i ≤ 9 → g' i = g i) → rlF tp n W p.2 cs m k b g' = .ok q → (∀ i, 4 ≤ i → i ≤ 9 → q.2.1 i = g i) ∧ q.2.2 = cs := by
        intro m
        induction m with
        | zero =>
          intro k b g' hg e
          rw [rlF] at e
          injection e with e
          subst e
          exact ⟨hg, rfl⟩
        | succ m ih =>
          intro k b g' hg e
          rw [rlF] at e
          cases hu : tkF tp n 0 8 b with
          | error x => rw [hu] at e; cases e
          | ok p2 =>
            rw [hu] at e
            exact ih (k + 1) p2.1 _ (fun i i1 i2 => by rw [upG_ne (by omega)]; exact hg i i1 i2) e
      exact rl W 0 p.1 g (fun _ _ _ => rfl) e
  rw [if_neg q1] at e
  by_cases q2 : tKd tp n a = 2
  · rw [if_pos q2] at e
    unfold hanF at e
    rw [h3] at e
    by_cases z : (H : Int) = 4
    · rw [if_pos z] at e; cases e
    · rw [if_neg z, Int.toNat_natCast] at e
      have hb : ∀ f b g', (∀ i, 4 ≤ i → i ≤ 9 → g' i = g i) → hbF tp n H cs f b g' = .ok q → (∀ i, 4 ≤ i → i ≤ 9 → q.2.1 i = g i) ∧ q.2.2 = cs := by
        intro f
        induction f with
        | zero => intro b g' _ e; rw [hbF] at e; cases e
        | succ f ih =>
          intro b g' hg e
          rw [hbF] at e
          by_cases y : tKd tp n b = 3
          · rw [if_pos y] at e
            cases hu : tkF tp n 0 9 (nxA tp n b) with
            | error x => rw [hu] at e; cases e
            | ok p2 =>
              rw [hu] at e
              exact ih p2.1 _ (fun i i1 i2 => by rw [upG_ne (by omega)]; exact hg i i1 i2) e
          · rw [if_neg y] at e
            injection e with e
            subst e
            exact ⟨fun i i1 i2 => by show upG g' 3 _ i = _; rw [upG_ne (by omega)]; exact hg i i1 i2, rfl⟩
      exact hb _ _ g (fun _ _ _ => rfl) e
  rw [if_neg q2] at e
  by_cases q3 : tKd tp n a = 4 ∨ tKd tp n a = 5
  · rw [if_pos q3] at e
    unfold drwF at e
    cases ht : tkF tp n 0 ((g 1).toNat * (g 2).toNat - 1) (nxA tp n a) with
    | error x => rw [ht] at e; cases e
    | ok p =>
      rw [ht] at e
      injection e with e
      subst e
      refine ⟨fun i i1 i2 => ?_, rfl⟩
      dsimp only
      split
      · rw [upG_ne (by omega), upG_ne (by omega)]
      · rw [upG_ne (by omega)]
  rw [if_neg q3, if_neg (by omega)] at e
  cases e
theorem Re_line_g {tp : Nat → Nat} {n a : Nat} {g : LG} {cs : List Nat} {h : AH} (S : RdL tp n a h) (G : XG g h) (W : GW g) (h6 : tKd tp n a ≠ 6 ∧ tKd tp n a ≠ 7) : GV 4 m_Re_line [.ref 36] h (XLo tp n (linF tp n a g cs) h) := by
  have F := S.R.F
  obtain ⟨R, Wd, H, D, g1, g2, g3, g4, r1, w1, rw12, hh⟩ := W
  have e201 : (decide (kI (cdX tp n a : Nat) = kI 201) = true) ↔ tKd tp n a = 1 := cd_ne (k := 1) (c := 201) (by omega) (by decide) (by omega) rfl
  have e202 : (decide (kI (cdX tp n a : Nat) = kI 202) = true) ↔ tKd tp n a = 2 := cd_ne (k := 2) (c := 202) (by omega) (by decide) (by omega) rfl
  have e203 : (decide (kI (cdX tp n a : Nat) = kI 203) = true) ↔ tKd tp n a = 3 := cd_ne (k := 3) (c := 203) (by omega) (by decide) (by omega) rfl
  have e204 : (decide (kI (cdX tp n a : Nat) = kI 204) = true) ↔ tKd tp n a = 4 := cd_ne (k := 4) (c := 204) (by omega) (by decide) (by omega) rfl
  have e205 : (decide (kI (cdX tp n a : Nat) = kI 205) = true) ↔ tKd tp n a = 5 := cd_ne (k := 5) (c := 205) (by omega) (by decide) (by omega) rfl
  refine GVo (s_Re_line_0 ?_)
  rw [rv_36_0 F, rv_36_13 F, kd_36 F, kd_37 F, S.K.c]
  refine ⟨rfl, rfl, ?_⟩
  unfold linF
  by_cases q1 : tKd tp n a = 1
  · rw [if_pos (e201.mpr q1), if_pos q1]
    exact ⟨rfl, GV.use (Re_rowLine_g S G g1 g2 r1 w1 rw12 (kd_n (tp := tp) (n := n) (a := a) (by omega))) (by omega) (fun h1 e1 => ⟨rfl, e1⟩)⟩
  rw [if_neg (fun z => q1 (e201.mp z)), if_neg q1]
  by_cases q2 : tKd tp n a = 2
  · rw [if_pos (e202.mpr q2), if_pos q2]
    exact ⟨rfl, GV.use (Re_handLine_g S G g3 hh q2) (by omega) (fun h1 e1 => ⟨rfl, e1⟩)⟩
  rw [if_neg (fun z => q2 (e202.mp z)), if_neg q2]
  have bad : tKd tp n a ≠ 4 → tKd tp n a ≠ 5 → Safe 3 m_Re_line (76, [.ref 36], [], h) (fun v h' => Eqv v none ∧ XLo tp n (if tKd tp n a = 4 ∨ tKd tp n a = 5 then drwF tp n (decide (tKd tp n a = 5)) a g cs else if tKd tp n a = 6 ∨ tKd tp n a = 7 then lawF tp n (tKd tp n a - 6) a g cs else .error (fkF tp n a 2, a)) h h') := fun z4 z5 => by
    refine s_Re_line_76 ?_
    rw [if_neg (by omega), if_neg (by omega), kd_36 F]
    exact ⟨rfl, GV.use (Re_refuse_g S (k := 2) (by omega) (by omega)) (by omega) (fun h1 e1 => ⟨rfl, lx_rf e1.1, e1.2⟩)⟩
  by_cases q3 : tKd tp n a = 3
  · rw [if_pos (e203.mpr q3)]
    exact bad (by omega) (by omega)
  rw [if_neg (fun z => q3 (e203.mp z))]
  by_cases q4 : tKd tp n a = 4
  · rw [if_pos (e204.mpr q4), if_pos (Or.inl q4)]
    obtain ⟨c, c12, hc, _⟩ := Re_drawnLine_g (cs := cs) S G g1 g2 g4 r1 w1 rw12 (kd_n (tp := tp) (n := n) (a := a) (by omega))
    have ed : decide (tKd tp n a = 5) = false := by rw [decide_eq_false_iff_not]; omega
    rw [ed]
    exact ⟨rfl, GI.use hc (by omega) (fun h1 e1 => ⟨rfl, e1⟩)⟩
  rw [if_neg (fun z => q4 (e204.mp z))]
  by_cases q5 : tKd tp n a = 5
  · rw [if_pos (e205.mpr q5), if_pos (Or.inr q5)]
    obtain ⟨c, c12, hc, et⟩ := Re_drawnLine_g (cs := cs) S G g1 g2 g4 r1 w1 rw12 (kd_n (tp := tp) (n := n) (a := a) (by omega))
    have ed : decide (tKd tp n a = 5) = true := by rw [decide_eq_true_eq]; exact q5
    rw [ed, et]
    refine ⟨rfl, rfl, GI.use hc (by omega) (fun h1 e1 => ?_)⟩
    cases hr : drwF tp n false a g cs with
    | error x =>
      rw [hr] at e1
      have B : RdB tp n x h1 := e1.2
      rw [kd_42 B.R.F]
      exact ⟨rfl, rfl, lx_st e1.1 (by omega) _, B.fe (F1_st h1 42 1 _) (fun x k z => by omega)⟩
    | ok p =>
      rw [hr] at e1
      obtain ⟨f1, S1, G1⟩ := e1
      rw [kd_42 S1.R.F]
      exact ⟨rfl, rfl, lx_st f1 (by omega) _, S1.fe (F1_st h1 42 1 _) (fun x k z => by omega), G1.lst c12⟩
  rw [if_neg (fun z => q5 (e205.mp z))]
  exact bad q4 q5
/-! laws: begun, read, made -/
theorem Re_beginLaw_g {tp : Nat → Nat} {n a law : Nat} {h : AH} (S : RdL tp n a h) (an : a < n) (hl : law ≤ 1) : GV 3 m_Re_beginLaw [.ref 36, .int (kI (if law = 0 then 1 else 0))] h (fun h' => FLx h h' ∧ (∀ k, 5 ≤ k → k ≤ 8 → ivA h' 36 k = ivA h 36 k) ∧ (∀ x k, 40 ≤ x → ivA h' x k = ivA h x k) ∧ (tKd tp n (nxA tp n a) = 31 → RdS tp n law (nxA tp n (nxA tp n a)) [] h') ∧ (tKd tp n (nxA tp n a) ≠ 31 → RdB tp n (fkF tp n (nxA tp n a) 2, nxA tp n a) h')) := by
  have F := S.R.F
  have ib : isB (kI (if law = 0 then 1 else 0)) = true := by split <;> rfl
  refine GVo (s_Re_beginLaw_0 ?_)
  rw [rv_36_0 F, kd_36 F, kd_37 F]
  refine ⟨rfl, rfl, GV.use (Re_adv S an) (by omega) (fun h1 e1 => ?_)⟩
  rw [kd_36 e1.2.R.F]
  refine ⟨rfl, ?_⟩
  have two : ∀ h2, (∀ k, ivA (stI (stI h2 36 3 (kI 0)) 36 4 (kI (if law = 0 then 1 else 0))) 36 k = if k = 4 then kI (if law = 0 then 1 else 0) else if k = 3 then kI 0 else ivA h2 36 k) ∧ (∀ x k, x ≠ 36 → ivA (stI (stI h2 36 3 (kI 0)) 36 4 (kI (if law = 0 then 1 else 0))) x k = ivA h2 x k) ∧ Fr (fun x k => x = 36 ∧ (k = 3 ∨ k = 4)) JM h2 (stI (stI h2 36 3 (kI 0)) 36 4 (kI (if law = 0 then 1 else 0))) := fun h2 => by
    refine ⟨fun k => ?_, fun x k hx => by rw [iv_stI, if_neg (by omega), iv_stI, if_neg (by omega)], ((Fr_rfl (fun x k => x = 36 ∧ (k = 3 ∨ k = 4)) JM h2).stI (by omega) _).stI (by omega) _⟩
    rw [iv_stI]
    by_cases q : k = 4
    · rw [if_pos ⟨rfl, q⟩, if_pos q]
    · rw [if_neg (by omega), if_neg q, iv_stI]
      by_cases q3 : k = 3
      · rw [if_pos ⟨rfl, q3⟩, if_pos q3]
      · rw [if_neg (by omega), if_neg q3]
  by_cases q : tKd tp n (nxA tp n a) = 31
  · refine GV.use (Re_expect_y (k := 31) (c := 58) e1.2 (by omega) (by decide) (by omega) rfl (by omega) q) (by omega) (fun h2 e2 => ?_)
    rw [kd_stI, kd_36 e2.2.R.F]
    obtain ⟨t1, t2, t3⟩ := two h2
    refine ⟨rfl, rfl, ib, rfl, ((lx_ad e1.1).trans (lx_ad e2.1)).trans (t3.mono (fun x k z => by omega) (fun _ _ z => z)), fun k k1 k2 => ?_, fun x k hx => ?_, fun _ => ⟨⟨?_, ?_, e2.2.an, ?_, ?_, 0, by omega, ?_⟩, ?_, ?_, fun k hk => by cases hk⟩, fun z => absurd q z⟩
    · rw [t1, if_neg (by omega), if_neg (by omega), e2.1.2.2.2.2.2.1 36 k (by omega), e1.1.2.2.2.2.2.1 36 k (by omega)]
    · rw [t2 _ _ (by omega), e2.1.2.2.2.2.2.1 x k (by omega), e1.1.2.2.2.2.2.1 x k (by omega)]
    · exact e2.2.R.fr t3 (fun x k z => by omega)
    · exact e2.2.K.fe t3 (fun x k z => by omega)
    · rw [t1, if_neg (by omega), if_neg (by omega)]; exact e2.2.f
    · rw [t1, if_neg (by omega), if_neg (by omega)]; exact e2.2.p
    · rw [t1, if_neg (by omega), if_pos rfl]; rfl
    · rw [t1, if_pos rfl]
    · rw [t1, if_neg (by omega), if_pos rfl]; rfl
  · refine GV.use (Re_expect_n (k := 31) (c := 58) e1.2 (by omega) (by decide) (by omega) rfl q) (by omega) (fun h2 e2 => ?_)
    rw [kd_stI, kd_36 e2.2.R.F]
    obtain ⟨t1, t2, t3⟩ := two h2
    refine ⟨rfl, rfl, ib, rfl, ((lx_ad e1.1).trans (lx_rf e2.1)).trans (t3.mono (fun x k z => by omega) (fun _ _ z => z)), fun k k1 k2 => ?_, fun x k hx => ?_, fun z => absurd z q, fun _ => ⟨?_, ?_, e2.2.r1, ?_, ?_, 0, by omega, ?_⟩⟩
    · rw [t1, if_neg (by omega), if_neg (by omega), e2.1.2.2.2.2.2.1 36 k (by omega), e1.1.2.2.2.2.2.1 36 k (by omega)]
    · rw [t2 _ _ (by omega), e2.1.2.2.2.2.2.1 x k (by omega), e1.1.2.2.2.2.2.1 x k (by omega)]
    · exact e2.2.R.fr t3 (fun x k z => by omega)
    · obtain ⟨m, i, h1, h2', h3, h4⟩ := e2.2.W
      exact ⟨m, i, h1, h2', by rw [t2 _ _ (by omega)]; exact h3, by rw [t2 _ _ (by omega)]; exact h4⟩
    · rw [t1, if_neg (by omega), if_neg (by omega)]; exact e2.2.f
    · rw [t1, if_neg (by omega), if_neg (by omega)]; exact e2.2.p
    · rw [t1, if_neg (by omega), if_pos rfl]; rfl
theorem FN.drop {A : Nat → Prop} {h h' : AH} (e : FN A h h') (n : ∀ x, A x → ¬ old h x) : FN (fun _ => False) h h' := ⟨e.kl, e.sz, e.lt, e.us, fun a o _ => e.iv a o (fun w => n a w o), fun a o _ => e.jv a o (fun w => n a w o), fun a o _ => e.rv a o (fun w => n a w o)⟩
/-- a law is made of what lies in the reader's codes -/
theorem La_made {k : Nat} {h : AH} (F : Fix h) (hz : szA h < 990000) (e3 : ivA h 36 3 = kI k) (k9 : k ≤ 900) {d : Nat} (hd : 2 ≤ d) {K : AH → Prop} (H : ∀ h', FN (fun _ => False) h h' → szA h' = szA h + 3 → usA h' = usA h + 67 + k → (∀ cs : List Nat, cs.length = k → (∀ c ∈ cs, c < 1008 ∨ (3000 ≤ c ∧ c ≤ 3008)) → (∀ j, j < k → ivA h 41 j = kI (xc (cs.getD j 0) : Nat)) → XLq cs (szA h + 1) h') → K h') : CallV d m_La_new [.ref (szA h + 1), .ref (rvA (nwA h 2 3) 36 2), .int (ivA (nwA h 2 3) 36 3)] (nwA h 2 3) K := by
  have s105 := F.2.2.2
  have F1' := F.nw (t := 2) (n := 3) (by omega)
  have e1 := FN_nw (A := fun _ => False) (h := h) (by omega) 2 3
  have i : ∀ x k, x ≤ 105 → ivA (nwA h 2 3) x k = ivA h x k := fun x k hx => by rw [iv_nw, if_neg (by omega)]
  have kq : kdA (nwA h 2 3) (szA h + 1) = 2 := by rw [kd_nw, if_pos rfl]
  have z1 : szA (nwA h 2 3) = szA h + 1 := rfl
  rw [rv_36_2 F1', i 36 3 (by omega), e3]
  refine GV.use (La_new_g kq (by omega) (by omega) F1' (by omega) k9) hd (fun h' e' => ?_)
  obtain ⟨e2, z2, u2, r1, r0, k1, l1, k2, l2, c2, us2⟩ := e'
  rw [z1] at z2 r1 r0 k1 l1 k2 l2 c2
  have e3' : FN (fun _ => False) h h' := ((e1.mono (fun x w => w.elim)).trans e2).drop (fun x w o => by have := old_ne o (by omega); exact this w)
  refine H h' e3' (by omega) (by rw [u2]; show usA h + 3 + 64 + k = _; omega) (fun cs lc cb cc => ?_)
  have kq' : kdA h' (szA h + 1) = 2 := by rw [(e2.kl _ (Or.inl (by omega))).1]; exact kq
  refine ⟨kq', r0, r1, ⟨k1, l1⟩, ⟨k2, by rw [l2, lc]⟩, fun j hj => ?_, ?_, by omega, by omega, by omega⟩
  · rw [c2 j (by omega), i 41 j (by omega)]
    exact cc j (by omega)
  · rw [us2, lc]
    exact usI_N cb k (by omega) (fun j hj => by show ivA (nwA h 2 3) 41 j = _; rw [i 41 j (by omega)]; exact cc j hj)
