/-! all lines of the reference -/
def bnd (r : LR) (f : Nat → LG → List Nat → LR) : LR := match r with
  | .ok q => f q.1 q.2.1 q.2.2
  | .error e => .error e
def lnsF (tp : Nat → Nat) (n : Nat) : Nat → Nat → LG → List Nat → LR
  | 0, a, _, _ => .error (2, a)
  | f + 1, a, g, cs => if tKd tp n a = 24 then .ok (a, g, cs) else bnd (linF tp n a g cs) (fun a1 g1 c1 => bnd (endF tp n a1 g1 c1) (fun a2 g2 c2 => lnsF tp n f a2 g2 c2))
theorem tkF_ok {tp : Nat → Nat} {n lo hi a b v : Nat} (e : tkF tp n lo hi a = .ok (b, v)) : a < b ∧ b ≤ n ∧ lo ≤ v ∧ v ≤ hi := by
  unfold tkF at e
  by_cases q : tKd tp n a = 23
  · rw [if_pos q] at e
    by_cases q2 : lo ≤ tNm tp n a ∧ tNm tp n a ≤ hi
    · rw [if_pos q2] at e
      injection e with e
      injection e with e1 e2
      subst e1 e2
      have nb := nxA_b (tp := tp) (kd_n (tp := tp) (n := n) (a := a) (by omega))
      exact ⟨nb.1, nb.2, q2.1, q2.2⟩
    · rw [if_neg q2] at e; cases e
  · rw [if_neg q] at e; cases e
theorem upG_ne {g : LG} {k j : Nat} {x : Int} (h : j ≠ k) : upG g k x j = g j := by unfold upG; rw [if_neg h]
theorem upG_eq {g : LG} {k : Nat} {x : Int} : upG g k x k = x := by unfold upG; rw [if_pos rfl]
theorem GW.up {g : LG} (G : GW g) {k : Nat} (h : k ≠ 1 ∧ k ≠ 2 ∧ k ≠ 3 ∧ k ≠ 22) (x : Int) : GW (upG g k x) := by
  obtain ⟨R, W, H, D, h1, h2, h3, h4, h5⟩ := G
  exact ⟨R, W, H, D, by rw [upG_ne (by omega)]; exact h1, by rw [upG_ne (by omega)]; exact h2, by rw [upG_ne (by omega)]; exact h3, by rw [upG_ne (by omega)]; exact h4, h5⟩
theorem rl_ok {tp : Nat → Nat} {n W r : Nat} {cs : List Nat} (hi : W * r + W ≤ 12) : ∀ m k a g q, m + k ≤ W → a ≤ n → GW g → rlF tp n W r cs m k a g = .ok q → a ≤ q.1 ∧ q.1 ≤ n ∧ GW q.2.1 ∧ q.2.2 = cs := by
  intro m
  induction m with
  | zero =>
    intro k a g q _ an G e
    rw [rlF] at e
    injection e with e
    subst e
    exact ⟨Nat.le_refl _, an, G, rfl⟩
  | succ m ih =>
    intro k a g q hk an G e
    rw [rlF] at e
    cases ht : tkF tp n 0 8 a with
    | error x => rw [ht] at e; cases e
    | ok p =>
      rw [ht] at e
      have t := tkF_ok (b := p.1) (v := p.2) ht
      have i := ih (k + 1) p.1 _ q (by omega) t.2.1 (G.up (k := 10 + W * r + k) (by omega) _) e
      exact ⟨by omega, i.2⟩
theorem row_ok {tp : Nat → Nat} {n a : Nat} {g : LG} {cs : List Nat} {q : Nat × LG × List Nat} (an : a < n) (G : GW g) (e : rowF tp n a g cs = .ok q) : a < q.1 ∧ q.1 ≤ n ∧ GW q.2.1 ∧ q.2.2 = cs := by
  have nb := nxA_b (tp := tp) an
  have G0 := G
  obtain ⟨R, W, H, D, h1, h2, h3, h4, r1, w1, rw12, h5⟩ := G
  unfold rowF at e
  rw [h1, h2, Int.toNat_natCast, Int.toNat_natCast] at e
  cases ht : tkF tp n 0 (R - 1) (nxA tp n a) with
  | error x => rw [ht] at e; cases e
  | ok p =>
    rw [ht] at e
    have t := tkF_ok (b := p.1) (v := p.2) ht
    have hi : W * p.2 + W ≤ 12 := by
      have : W * (p.2 + 1) ≤ W * R := Nat.mul_le_mul_left W (by omega)
      rw [Nat.mul_add, Nat.mul_one, Nat.mul_comm W R] at this
      omega
    have i := rl_ok hi W 0 p.1 g q (by omega) t.2.1 G0 e
    exact ⟨by omega, i.2⟩
theorem hb_ok {tp : Nat → Nat} {n H : Nat} {cs : List Nat} (hH : H < 4) : ∀ f a g q, a ≤ n → GW g → hbF tp n H cs f a g = .ok q → a ≤ q.1 ∧ q.1 ≤ n ∧ GW q.2.1 ∧ q.2.2 = cs := by
  intro f
  induction f with
  | zero => intro a g q _ _ e; rw [hbF] at e; cases e
  | succ f ih =>
    intro a g q an G e
    rw [hbF] at e
    by_cases z : tKd tp n a = 3
    · rw [if_pos z] at e
      have nb := nxA_b (tp := tp) (kd_n (tp := tp) (n := n) (a := a) (by omega))
      cases ht : tkF tp n 0 9 (nxA tp n a) with
      | error x => rw [ht] at e; cases e
      | ok p =>
        rw [ht] at e
        have t := tkF_ok (b := p.1) (v := p.2) ht
        have i := ih p.1 _ q t.2.1 (G.up (k := 25 + H) (by omega) _) e
        exact ⟨by omega, i.2⟩
    · rw [if_neg z] at e
      injection e with e
      subst e
      refine ⟨Nat.le_refl _, an, ?_, rfl⟩
      obtain ⟨R, W, H', D, h1, h2, h3, h4, r1, w1, rw12, h5⟩ := G
      show GW (upG g 3 ((H : Int) + 1))
      exact ⟨R, W, H + 1, D, by rw [upG_ne (by omega)]; exact h1, by rw [upG_ne (by omega)]; exact h2, by rw [upG_eq]; rfl, by rw [upG_ne (by omega)]; exact h4, r1, w1, rw12, by omega⟩
theorem lin_ok {tp : Nat → Nat} {n a : Nat} {g : LG} {cs : List Nat} {q : Nat × LG × List Nat} (an : a < n) (G : GW g) (le : cs.length ≤ a) (e : linF tp n a g cs = .ok q) : a < q.1 ∧ q.1 ≤ n ∧ GW q.2.1 ∧ q.2.2.length ≤ q.1 := by
  have nb := nxA_b (tp := tp) an
  unfold linF at e
  by_cases q1 : tKd tp n a = 1
  · rw [if_pos q1] at e
    have i := row_ok an G e
    exact ⟨i.1, i.2.1, i.2.2.1, by rw [i.2.2.2]; omega⟩
  rw [if_neg q1] at e
  by_cases q2 : tKd tp n a = 2
  · rw [if_pos q2] at e
    have G0 := G
    obtain ⟨R, W, H, D, h1, h2, h3, h4, r1, w1, rw12, h5⟩ := G
    unfold hanF at e
    rw [h3] at e
    by_cases z : (H : Int) = 4
    · rw [if_pos z] at e; cases e
    · rw [if_neg z, Int.toNat_natCast] at e
      have i := hb_ok (by omega) _ _ g q nb.2 G0 e
      exact ⟨by omega, i.2.1, i.2.2.1, by rw [i.2.2.2]; omega⟩
  rw [if_neg q2] at e
  by_cases q3 : tKd tp n a = 4 ∨ tKd tp n a = 5
  · rw [if_pos q3] at e
    have G0 := G
    obtain ⟨R, W, H, D, h1, h2, h3, h4, r1, w1, rw12, h5⟩ := G
    unfold drwF at e
    cases ht : tkF tp n 0 ((g 1).toNat * (g 2).toNat - 1) (nxA tp n a) with
    | error x => rw [ht] at e; cases e
    | ok p =>
      rw [ht] at e
      have t := tkF_ok (b := p.1) (v := p.2) ht
      injection e with e
      subst e
      have G1 : GW (upG g 22 (((g 22).toNat ||| 2 ^ p.2 : Nat) : Int)) := ⟨R, W, H, (g 22).toNat ||| 2 ^ p.2, by rw [upG_ne (by omega)]; exact h1, by rw [upG_ne (by omega)]; exact h2, by rw [upG_ne (by omega)]; exact h3, upG_eq, r1, w1, rw12, h5⟩
      refine ⟨by show a < p.1; omega, t.2.1, ?_, by show cs.length ≤ p.1; omega⟩
      dsimp only
      split
      · exact G1.up (by omega) _
      · exact G1
  rw [if_neg q3] at e
  by_cases q4 : tKd tp n a = 6 ∨ tKd tp n a = 7
  · rw [if_pos q4] at e
    unfold lawF at e
    by_cases z : tKd tp n (nxA tp n a) = 31
    · rw [if_pos z] at e
      have nb2 := nxA_b (tp := tp) (kd_n (tp := tp) (n := n) (a := nxA tp n a) (by omega))
      obtain ⟨md, hmd⟩ : ∃ md, md = if tKd tp n a - 6 = 1 then 3 else 9 := ⟨_, rfl⟩
      have m9 : md ≤ 9 := by rw [hmd]; split <;> omega
      rw [← hmd] at e
      cases hr : PP tp n (tKd tp n a - 6) (7 * n + 7) md 0 (nxA tp n (nxA tp n a)) cs with
      | error x => rw [hr] at e; cases e
      | ok p =>
        rw [hr] at e
        have i := PP_go _ _ _ _ _ p.1 p.2 m9 nb2.2 hr
        injection e with e
        subst e
        exact ⟨by show a < p.1; omega, i.2.1, ((G.up (k := 4 + (tKd tp n a - 6)) (by omega) _).up (k := 6 + (tKd tp n a - 6)) (by omega) _).up (k := 8 + (tKd tp n a - 6)) (by omega) _, by show p.2.length ≤ p.1; omega⟩
    · rw [if_neg z] at e; cases e
  rw [if_neg q4] at e
  cases e
theorem end_ok {tp : Nat → Nat} {n a : Nat} {g : LG} {cs : List Nat} {q : Nat × LG × List Nat} (G : GW g) (le : cs.length ≤ a) (e : endF tp n a g cs = .ok q) : a < q.1 ∧ q.1 ≤ n ∧ GW q.2.1 ∧ q.2.2.length ≤ q.1 := by
  unfold endF at e
  by_cases z : tKd tp n a = 30
  · rw [if_pos z] at e
    have nb := nxA_b (tp := tp) (kd_n (tp := tp) (n := n) (a := a) (by omega))
    injection e with e
    subst e
    exact ⟨nb.1, nb.2, G.up (by omega) _, by show cs.length ≤ nxA tp n a; omega⟩
  · rw [if_neg z] at e; cases e
theorem M_sheet_115 {tp : Nat → Nat} {n : Nat} (hn : n ≤ 900) {h0 : AH} {d : Nat} (hd : 41 ≤ d) {Q : Option Value → AH → Prop} : ∀ f a g cs law h, n - a + 1 ≤ f → a ≤ n → law ≤ 4294967295 → GW g → cs.length ≤ a → FLn h0 h → ML tp n law a g cs h → (∀ h', MPl tp n (lnsF tp n f a g cs) h0 h' → Safe d m_M_sheet (142, [.ref 88, unV, unV], [], h') Q) → Safe d m_M_sheet (115, [.ref 88, unV, unV], [], h) Q := by
  have dead : ∀ h, MBd h → Safe d m_M_sheet (142, [.ref 88, unV, unV], [], h) Q → Safe d m_M_sheet (115, [.ref 88, unV, unV], [], h) Q := fun h B s => by
    refine s_M_sheet_115 ?_
    rw [kd_88 B.1, if_pos B.nz.1]
    exact ⟨rfl, s⟩
  intro f
  induction f with
  | zero => intro a g cs law h hf; omega
  | succ f ih =>
    intro a g cs law h hf an hl G le e0 M K
    have S := M.1
    have F := S.F
    have kb := tKd_b tp n a
    refine s_M_sheet_115 ?_
    rw [kd_88 F, S.i11, if_neg (by decide), S.i9]
    refine ⟨rfl, rfl, ?_⟩
    by_cases q : tKd tp n a = 24
    · rw [if_pos (by rw [q]; simp)]
      have eP : lnsF tp n (f + 1) a g cs = .ok (a, g, cs) := by rw [lnsF, if_pos q]
      rw [eP] at K
      exact K h ⟨e0, law, hl, M⟩
    · have a1 := kd_n (tp := tp) (n := n) (a := a) q
      have eP : lnsF tp n (f + 1) a g cs = bnd (linF tp n a g cs) (fun a1 g1 c1 => bnd (endF tp n a1 g1 c1) (fun a2 g2 c2 => lnsF tp n f a2 g2 c2)) := by rw [lnsF, if_neg q]
      rw [eP] at K
      rw [if_neg (by rw [decide_eq_true_eq, kI_inj (by omega) (by omega) (by omega) (by omega)]; omega)]
      refine ⟨rfl, ?_⟩
      refine GV.use (M_readLine_g hn M hl G le) (by omega) (fun h1 e1 => ?_)
      cases hr : linF tp n a g cs with
      | error x =>
        rw [hr] at e1 K
        have B := e1.2.1
        rw [kd_88 B.1]
        refine ⟨rfl, ?_⟩
        refine GV.use (M_ends1_d B) (by omega) (fun h2 e2 => ?_)
        exact dead h2 e2.2.1 (K h2 ⟨e0.trans (e1.1.trans e2.1), e2.2.1, by rw [e2.2.2.1]; exact e1.2.2.1, by rw [e2.2.2.2]; exact e1.2.2.2⟩)
      | ok p =>
        rw [hr] at e1 K
        obtain ⟨f1, law1, hl1, M1⟩ := e1
        have i1 := lin_ok a1 G le hr
        rw [kd_88 M1.1.F]
        refine ⟨rfl, ?_⟩
        refine GV.use (M_ends1_g M1 hl1) (by omega) (fun h2 e2 => ?_)
        cases hr2 : endF tp n p.1 p.2.1 p.2.2 with
        | error x =>
          rw [hr2] at e2
          have eb : bnd (.ok p) (fun a1 g1 c1 => bnd (endF tp n a1 g1 c1) (fun a2 g2 c2 => lnsF tp n f a2 g2 c2)) = .error x := by
            show bnd (endF tp n p.1 p.2.1 p.2.2) _ = _
            rw [hr2]
            rfl
          rw [eb] at K
          exact dead h2 e2.2.1 (K h2 ⟨e0.trans (f1.trans e2.1), e2.2⟩)
        | ok r =>
          rw [hr2] at e2
          obtain ⟨f2, law2, hl2, M2⟩ := e2
          have i2 := end_ok i1.2.2.1 i1.2.2.2 hr2
          have eb : bnd (.ok p) (fun a1 g1 c1 => bnd (endF tp n a1 g1 c1) (fun a2 g2 c2 => lnsF tp n f a2 g2 c2)) = lnsF tp n f r.1 r.2.1 r.2.2 := by
            show bnd (endF tp n p.1 p.2.1 p.2.2) _ = _
            rw [hr2]
            rfl
          rw [eb] at K
          exact ih r.1 r.2.1 r.2.2 law2 h2 (by omega) i2.2.1 hl2 i2.2.2.1 i2.2.2.2 (e0.trans (f1.trans f2)) M2 K
