/-! what a text tells is in order -/
def gLw (g : LG) (cs : List Nat) (k : Nat) : List Nat := if g (4 + k) = 1 then (cs.drop (g (6 + k)).toNat).take (g (8 + k)).toNat else []
def GLw (g : LG) (cs : List Nat) (k : Nat) (b : Bool) : Prop := g (4 + k) = 0 ∨ (g (4 + k) = 1 ∧ ∃ fr len : Nat, g (6 + k) = fr ∧ g (8 + k) = len ∧ fr + len ≤ cs.length ∧ JT k [b] ((cs.drop fr).take len))
def GQ (g : LG) (a : Nat) : Prop := ∃ R W H D l L : Nat, g 1 = R ∧ g 2 = W ∧ g 3 = H ∧ g 22 = D ∧ g 23 = l ∧ g 0 = L ∧ 1 ≤ R ∧ 1 ≤ W ∧ R * W ≤ 12 ∧ H ≤ 4 ∧ D < 2 ^ (R * W) ∧ (l = 12 ∨ l < R * W) ∧ L ≤ a
def GX (g : LG) (cs : List Nat) (a : Nat) : Prop := (GQ g a) ∧ (g 24 = -1) ∧ (∀ k, k < 12 → 0 ≤ g (10 + k) ∧ g (10 + k) ≤ 8) ∧ (∀ k, k < 4 → 0 ≤ g (25 + k) ∧ g (25 + k) ≤ 9) ∧ (GLw g cs 0 true) ∧ (GLw g cs 1 false)
theorem GX.q {g : LG} {cs : List Nat} {a : Nat} (C : GX g cs a) : GQ g a := C.1
theorem GX.x {g : LG} {cs : List Nat} {a : Nat} (C : GX g cs a) : g 24 = -1 := C.2.1
theorem GX.k {g : LG} {cs : List Nat} {a : Nat} (C : GX g cs a) : ∀ k, k < 12 → 0 ≤ g (10 + k) ∧ g (10 + k) ≤ 8 := C.2.2.1
theorem GX.b {g : LG} {cs : List Nat} {a : Nat} (C : GX g cs a) : ∀ k, k < 4 → 0 ≤ g (25 + k) ∧ g (25 + k) ≤ 9 := C.2.2.2.1
theorem GX.m {g : LG} {cs : List Nat} {a : Nat} (C : GX g cs a) : GLw g cs 0 true := C.2.2.2.2.1
theorem GX.o {g : LG} {cs : List Nat} {a : Nat} (C : GX g cs a) : GLw g cs 1 false := C.2.2.2.2.2
theorem GX.gw {g : LG} {cs : List Nat} {a : Nat} (X : GX g cs a) : GW g := by
  obtain ⟨R, W, H, D, l, L, h1, h2, h3, h4, h5, h6, r1, w1, rw12, hh, _⟩ := X.q
  exact ⟨R, W, H, D, h1, h2, h3, h4, r1, w1, rw12, hh⟩
theorem GLw.up {g : LG} {cs : List Nat} {k : Nat} {b : Bool} (X : GLw g cs k b) {i : Nat} (h : i ≠ 4 + k ∧ i ≠ 6 + k ∧ i ≠ 8 + k) (x : Int) : GLw (upG g i x) cs k b := by
  unfold GLw
  rw [upG_ne (fun z => h.1 z.symm), upG_ne (fun z => h.2.1 z.symm), upG_ne (fun z => h.2.2 z.symm)]
  exact X
theorem GLw.ap {g : LG} {cs : List Nat} {k : Nat} {b : Bool} (X : GLw g cs k b) (xs : List Nat) : GLw g (cs ++ xs) k b := by
  rcases X with X | ⟨h1, fr, len, h2, h3, h4, h5⟩
  · exact Or.inl X
  · refine Or.inr ⟨h1, fr, len, h2, h3, by rw [List.length_append]; omega, ?_⟩
    rw [List.drop_append_of_le_length (by omega), List.take_append_of_le_length (by rw [List.length_drop]; omega)]
    exact h5
theorem GX.mono {g : LG} {cs : List Nat} {a a' : Nat} (X : GX g cs a) (h : a ≤ a') : GX g cs a' := by
  obtain ⟨R, W, H, D, l, L, h1, h2, h3, h4, h5, h6, r1, w1, rw12, hh, hD, hl, hL⟩ := X.q
  exact ⟨⟨R, W, H, D, l, L, h1, h2, h3, h4, h5, h6, r1, w1, rw12, hh, hD, hl, by omega⟩, X.x, X.k, X.b, X.m, X.o⟩
theorem GQ.up {g : LG} {a : Nat} (X : GQ g a) {i : Nat} (h : i ≠ 0 ∧ i ≠ 1 ∧ i ≠ 2 ∧ i ≠ 3 ∧ i ≠ 22 ∧ i ≠ 23) (x : Int) : GQ (upG g i x) a := by
  unfold GQ
  rw [upG_ne (j := 0) (by omega), upG_ne (j := 1) (by omega), upG_ne (j := 2) (by omega), upG_ne (j := 3) (by omega), upG_ne (j := 22) (by omega), upG_ne (j := 23) (by omega)]
  exact X
theorem GX.kd {g : LG} {cs : List Nat} {a : Nat} (X : GX g cs a) {j : Nat} (hj : j < 12) {x : Int} (x0 : 0 ≤ x) (x8 : x ≤ 8) : GX (upG g (10 + j) x) cs a := by
  refine ⟨X.q.up (by omega) _, by rw [upG_ne (by omega)]; exact X.x, fun k hk => ?_, fun k hk => by rw [upG_ne (by omega)]; exact X.b k hk, X.m.up (by omega) _, X.o.up (by omega) _⟩
  by_cases z : k = j
  · rw [z, upG_eq]; exact ⟨x0, x8⟩
  · rw [upG_ne (by omega)]; exact X.k k hk
theorem GX.hb {g : LG} {cs : List Nat} {a : Nat} (X : GX g cs a) {j : Nat} (hj : j < 4) {x : Int} (x0 : 0 ≤ x) (x8 : x ≤ 9) : GX (upG g (25 + j) x) cs a := by
  refine ⟨X.q.up (by omega) _, by rw [upG_ne (by omega)]; exact X.x, fun k hk => by rw [upG_ne (by omega)]; exact X.k k hk, fun k hk => ?_, X.m.up (by omega) _, X.o.up (by omega) _⟩
  by_cases z : k = j
  · rw [z, upG_eq]; exact ⟨x0, x8⟩
  · rw [upG_ne (by omega)]; exact X.b k hk
theorem GX.small {g : LG} {cs : List Nat} {a a' : Nat} (X : GX g cs a) {i : Nat} (hi : i = 0 ∨ i = 3 ∨ i = 22 ∨ i = 23 ∨ i = 1 ∨ i = 2) {x : Int} (Q : GQ (upG g i x) a') : GX (upG g i x) cs a' := ⟨Q, by rw [upG_ne (by omega)]; exact X.x, fun k hk => by rw [upG_ne (by omega)]; exact X.k k hk, fun k hk => by rw [upG_ne (by omega)]; exact X.b k hk, X.m.up (by omega) _, X.o.up (by omega) _⟩
theorem rl_gx {tp : Nat → Nat} {n W r : Nat} {cs : List Nat} (hi : W * r + W ≤ 12) {b : Nat} : ∀ m k a g q, m + k ≤ W → GX g cs b → rlF tp n W r cs m k a g = .ok q → GX q.2.1 q.2.2 b := by
  intro m
  induction m with
  | zero =>
    intro k a g q _ G e
    rw [rlF] at e
    injection e with e
    subst e
    exact G
  | succ m ih =>
    intro k a g q hk G e
    rw [rlF] at e
    cases ht : tkF tp n 0 8 a with
    | error x => rw [ht] at e; cases e
    | ok p =>
      rw [ht] at e
      have t := tkF_ok (b := p.1) (v := p.2) ht
      refine ih (k + 1) p.1 _ q (by omega) ?_ e
      have := G.kd (j := W * r + k) (by omega) (x := (p.2 : Int)) (by omega) (by omega)
      rw [show 10 + (W * r + k) = 10 + W * r + k by omega] at this
      exact this
theorem hb_gx {tp : Nat → Nat} {n H : Nat} {cs : List Nat} (hH : H < 4) {b : Nat} : ∀ f a g q, GX g cs b → hbF tp n H cs f a g = .ok q → GX q.2.1 q.2.2 b := by
  intro f
  induction f with
  | zero => intro a g q _ e; rw [hbF] at e; cases e
  | succ f ih =>
    intro a g q G e
    rw [hbF] at e
    by_cases z : tKd tp n a = 3
    · rw [if_pos z] at e
      cases ht : tkF tp n 0 9 (nxA tp n a) with
      | error x => rw [ht] at e; cases e
      | ok p =>
        rw [ht] at e
        have t := tkF_ok (b := p.1) (v := p.2) ht
        exact ih p.1 _ q (G.hb hH (by omega) (by omega)) e
    · rw [if_neg z] at e
      injection e with e
      subst e
      obtain ⟨R, W, H', D, l, L, h1, h2, h3, h4, h5, h6, r1, w1, rw12, hh, hD, hl, hL⟩ := G.q
      refine G.small (by omega) ⟨R, W, H + 1, D, l, L, by rw [upG_ne (by omega)]; exact h1, by rw [upG_ne (by omega)]; exact h2, by rw [upG_eq]; rfl, by rw [upG_ne (by omega)]; exact h4, by rw [upG_ne (by omega)]; exact h5, by rw [upG_ne (by omega)]; exact h6, r1, w1, rw12, by omega, hD, hl, hL⟩
theorem PP_apd {tp : Nat → Nat} {n law f md deep a a' : Nat} {cs cs' : List Nat} (hm : md ≤ 9) (h : PP tp n law f md deep a cs = .ok (a', cs')) : ∃ xs, cs' = cs ++ xs ∧ PP tp n law f md deep a [] = .ok (a', xs) := by
  have e := PP_pre (tp := tp) (n := n) (law := law) (pre := cs) f md deep a [] hm
  rw [List.append_nil, h] at e
  cases hr : PP tp n law f md deep a [] with
  | error x => rw [hr] at e; cases e
  | ok q =>
    rw [hr] at e
    have e2 : (Except.ok (a', cs') : PR) = .ok (q.1, cs ++ q.2) := e
    injection e2 with e2
    injection e2 with e3 e4
    exact ⟨q.2, e4, by rw [e3]⟩
theorem lin_gx {tp : Nat → Nat} {n a b : Nat} {g : LG} {cs : List Nat} {q : Nat × LG × List Nat} (G : GX g cs b) (e : linF tp n a g cs = .ok q) : GX q.2.1 q.2.2 b := by
  have G0 := G
  obtain ⟨R, W, H, D, l, L, h1, h2, h3, h4, h5, h6, r1, w1, rw12, hh, hD, hl, hL⟩ := G.q
  unfold linF at e
  by_cases q1 : tKd tp n a = 1
  · rw [if_pos q1] at e
    unfold rowF at e
    rw [h1, h2, Int.toNat_natCast, Int.toNat_natCast] at e
    cases ht : tkF tp n 0 (R - 1) (nxA tp n a) with
    | error x => rw [ht] at e; cases e
    | ok p =>
      rw [ht] at e
      have t := tkF_ok (b := p.1) (v := p.2) ht
      have hi : W * p.2 + W ≤ 12 := by
        have : W * (p.2 + 1) ≤ W * R := Nat.mul_le_mul_left W (by omega)
        rw [Nat.mul_add, Nat.mul_one, Nat.mul_comm W R] at this
        omega
      exact rl_gx hi W 0 p.1 g q (by omega) G0 e
  rw [if_neg q1] at e
  by_cases q2 : tKd tp n a = 2
  · rw [if_pos q2] at e
    unfold hanF at e
    rw [h3] at e
    by_cases z : (H : Int) = 4
    · rw [if_pos z] at e; cases e
    · rw [if_neg z, Int.toNat_natCast] at e
      exact hb_gx (by omega) _ _ g q G0 e
  rw [if_neg q2] at e
  by_cases q3 : tKd tp n a = 4 ∨ tKd tp n a = 5
  · rw [if_pos q3] at e
    unfold drwF at e
    rw [h1, h2, h4, Int.toNat_natCast, Int.toNat_natCast, Int.toNat_natCast] at e
    have n1 : 1 ≤ R * W := Nat.mul_pos r1 w1
    cases ht : tkF tp n 0 (R * W - 1) (nxA tp n a) with
    | error x => rw [ht] at e; cases e
    | ok p =>
      rw [ht] at e
      have t := tkF_ok (b := p.1) (v := p.2) ht
      injection e with e
      subst e
      have Db : D ||| 2 ^ p.2 < 2 ^ (R * W) := Nat.or_lt_two_pow hD (Nat.pow_lt_pow_right (by omega) (by omega))
      have X1 : GX (upG g 22 ((D ||| 2 ^ p.2 : Nat) : Int)) cs b := G0.small (by omega) ⟨R, W, H, D ||| 2 ^ p.2, l, L, by rw [upG_ne (by omega)]; exact h1, by rw [upG_ne (by omega)]; exact h2, by rw [upG_ne (by omega)]; exact h3, upG_eq, by rw [upG_ne (by omega)]; exact h5, by rw [upG_ne (by omega)]; exact h6, r1, w1, rw12, hh, Db, hl, hL⟩
      dsimp only
      split
      · refine X1.small (by omega) ⟨R, W, H, D ||| 2 ^ p.2, p.2, L, ?_, ?_, ?_, ?_, upG_eq, ?_, r1, w1, rw12, hh, Db, Or.inr (by omega), hL⟩
        · rw [upG_ne (by omega), upG_ne (by omega)]; exact h1
        · rw [upG_ne (by omega), upG_ne (by omega)]; exact h2
        · rw [upG_ne (by omega), upG_ne (by omega)]; exact h3
        · rw [upG_ne (by omega)]; exact upG_eq
        · rw [upG_ne (by omega), upG_ne (by omega)]; exact h6
      · exact X1
  rw [if_neg q3] at e
  by_cases q4 : tKd tp n a = 6 ∨ tKd tp n a = 7
  · rw [if_pos q4] at e
    unfold lawF at e
    by_cases z : tKd tp n (nxA tp n a) = 31
    · rw [if_pos z] at e
      obtain ⟨lw, hlw⟩ : ∃ lw, lw = tKd tp n a - 6 := ⟨_, rfl⟩
      have lw1 : lw ≤ 1 := by omega
      rw [← hlw] at e
      obtain ⟨md, hmd⟩ : ∃ md, md = if lw = 1 then 3 else 9 := ⟨_, rfl⟩
      have m9 : md ≤ 9 := by rw [hmd]; split <;> omega
      rw [← hmd] at e
      cases hr : PP tp n lw (7 * n + 7) md 0 (nxA tp n (nxA tp n a)) cs with
      | error x => rw [hr] at e; cases e
      | ok p =>
        rw [hr] at e
        obtain ⟨xs, ex, ep⟩ := PP_apd (a' := p.1) (cs' := p.2) m9 hr
        have J := PP_ty _ _ _ _ _ _ _ [] m9 (by omega) ep (by unfold kM; rw [hmd]; rcases (by omega : lw = 0 ∨ lw = 1) with w | w <;> subst w <;> decide) ⟨by rw [hmd]; rcases (by omega : lw = 0 ∨ lw = 1) with w | w <;> subst w <;> rfl, fun c hc => absurd hc List.not_mem_nil⟩
        injection e with e
        subst e
        dsimp only
        rw [ex]
        have tk : ((cs ++ xs).drop cs.length).take xs.length = xs := by
          rw [List.drop_left, List.take_length]
        have len : (((cs ++ xs).length : Nat) : Int) - (cs.length : Int) = (xs.length : Nat) := by rw [List.length_append]; omega
        rw [len]
        have new : GLw (upG (upG (upG g (4 + lw) 1) (6 + lw) (cs.length : Nat)) (8 + lw) (xs.length : Nat)) (cs ++ xs) lw (bM md) := by
          refine Or.inr ⟨by rw [upG_ne (by omega), upG_ne (by omega), upG_eq], cs.length, xs.length, by rw [upG_ne (by omega), upG_eq], upG_eq, by rw [List.length_append]; omega, ?_⟩
          rw [tk]
          exact J
        have old : ∀ k v, k ≤ 1 → k ≠ lw → GLw g cs k v → GLw (upG (upG (upG g (4 + lw) 1) (6 + lw) (cs.length : Nat)) (8 + lw) (xs.length : Nat)) (cs ++ xs) k v := fun k v k1 kn X => ((((X.ap xs).up (by omega) _).up (by omega) _).up (by omega) _)
        refine ⟨((G0.q.up (by omega) _).up (by omega) _).up (by omega) _, by rw [upG_ne (by omega), upG_ne (by omega), upG_ne (by omega)]; exact G0.x, fun k hk => by rw [upG_ne (by omega), upG_ne (by omega), upG_ne (by omega)]; exact G0.k k hk, fun k hk => by rw [upG_ne (by omega), upG_ne (by omega), upG_ne (by omega)]; exact G0.b k hk, ?_, ?_⟩
        · by_cases w : lw = 0
          · subst w
            rw [hmd] at new
            exact new
          · exact old 0 true (by omega) (by omega) G0.m
        · by_cases w : lw = 1
          · subst w
            rw [hmd] at new
            exact new
          · exact old 1 false (by omega) (by omega) G0.o
    · rw [if_neg z] at e; cases e
  rw [if_neg q4] at e
  cases e
theorem end_gx {tp : Nat → Nat} {n a : Nat} {g : LG} {cs : List Nat} {q : Nat × LG × List Nat} (G : GX g cs a) (e : endF tp n a g cs = .ok q) : GX q.2.1 q.2.2 q.1 := by
  unfold endF at e
  by_cases z : tKd tp n a = 30
  · rw [if_pos z] at e
    have nb := nxA_b (tp := tp) (kd_n (tp := tp) (n := n) (a := a) (by omega))
    injection e with e
    subst e
    obtain ⟨R, W, H, D, l, L, h1, h2, h3, h4, h5, h6, r1, w1, rw12, hh, hD, hl, hL⟩ := G.q
    exact G.small (by omega) ⟨R, W, H, D, l, L + 1, by rw [upG_ne (by omega)]; exact h1, by rw [upG_ne (by omega)]; exact h2, by rw [upG_ne (by omega)]; exact h3, by rw [upG_ne (by omega)]; exact h4, by rw [upG_ne (by omega)]; exact h5, by rw [upG_eq, h6]; rfl, r1, w1, rw12, hh, hD, hl, by show L + 1 ≤ nxA tp n a; omega⟩
  · rw [if_neg z] at e; cases e
theorem bnd_ok {r : LR} {f : Nat → LG → List Nat → LR} {q : Nat × LG × List Nat} (h : bnd r f = .ok q) : ∃ p, r = .ok p ∧ f p.1 p.2.1 p.2.2 = .ok q := by
  cases r with
  | ok p => exact ⟨p, rfl, h⟩
  | error e => cases h
theorem lns_gx {tp : Nat → Nat} {n : Nat} : ∀ f a g cs q, a ≤ n → cs.length ≤ a → GX g cs a → lnsF tp n f a g cs = .ok q → GX q.2.1 q.2.2 q.1 ∧ q.1 ≤ n ∧ q.2.2.length ≤ q.1 := by
  intro f
  induction f with
  | zero => intro a g cs q _ _ _ e; rw [lnsF] at e; cases e
  | succ f ih =>
    intro a g cs q an le G e
    rw [lnsF] at e
    by_cases z : tKd tp n a = 24
    · rw [if_pos z] at e
      injection e with e
      subst e
      exact ⟨G, an, le⟩
    · rw [if_neg z] at e
      obtain ⟨p, e1, e2⟩ := bnd_ok e
      obtain ⟨p2, e3, e4⟩ := bnd_ok e2
      have i1 := lin_ok (kd_n z) G.gw le e1
      have g1 := (lin_gx G e1).mono (a' := p.1) (by omega)
      have i2 := end_ok i1.2.2.1 i1.2.2.2 e3
      exact ih p2.1 p2.2.1 p2.2.2 q i2.2.1 i2.2.2.2 (end_gx g1 e3) e4
theorem g0_gx : GX g0F [] 0 := by
  refine ⟨⟨1, 1, 0, 0, 12, 0, rfl, rfl, rfl, rfl, rfl, rfl, by omega, by omega, by omega, by omega, by decide, Or.inl rfl, by omega⟩, rfl, fun k hk => ?_, fun k hk => ?_, Or.inl rfl, Or.inl rfl⟩
  · have : g0F (10 + k) = 0 := by unfold g0F; rw [if_neg (by omega), if_neg (by omega), if_neg (by omega)]
    omega
  · have : g0F (25 + k) = 0 := by unfold g0F; rw [if_neg (by omega), if_neg (by omega), if_neg (by omega)]
    omega
theorem hd_gx {tp : Nat → Nat} {n a : Nat} {q : Nat × LG × List Nat} (an : a ≤ n) (e : hdF tp n a g0F [] = .ok q) : GX q.2.1 q.2.2 q.1 ∧ q.1 ≤ n ∧ q.2.2.length ≤ q.1 := by
  unfold hdF at e
  cases ht : tkF tp n 1 12 a with
  | error x => rw [ht] at e; cases e
  | ok p =>
    rw [ht] at e
    dsimp only at e
    have t := tkF_ok (b := p.1) (v := p.2) ht
    cases hu : tkF tp n 1 (12 / p.2) p.1 with
    | error x => rw [hu] at e; cases e
    | ok r =>
      rw [hu] at e
      dsimp only at e
      have u := tkF_ok (b := r.1) (v := r.2) hu
      have rw12 : p.2 * r.2 ≤ 12 := Nat.le_trans (Nat.mul_le_mul_left p.2 u.2.2.2) (Nat.mul_div_le 12 p.2)
      have n1 : 1 ≤ p.2 * r.2 := Nat.mul_pos t.2.2.1 u.2.2.1
      have Q : GQ (upG (upG g0F 1 (p.2 : Nat)) 2 (r.2 : Nat)) r.1 := by
        refine ⟨p.2, r.2, 0, 0, 12, 0, ?_, ?_, ?_, ?_, ?_, ?_, t.2.2.1, u.2.2.1, rw12, by omega, Nat.two_pow_pos _, Or.inl rfl, by omega⟩
        · rw [upG_ne (by omega), upG_eq]
        · rw [upG_eq]
        · rw [upG_ne (by omega), upG_ne (by omega)]; rfl
        · rw [upG_ne (by omega), upG_ne (by omega)]; rfl
        · rw [upG_ne (by omega), upG_ne (by omega)]; rfl
        · rw [upG_ne (by omega), upG_ne (by omega)]; rfl
      have X : GX (upG (upG g0F 1 (p.2 : Nat)) 2 (r.2 : Nat)) [] r.1 := ⟨Q, by rw [upG_ne (by omega), upG_ne (by omega)]; rfl, fun k hk => by rw [upG_ne (by omega), upG_ne (by omega)]; exact g0_gx.k k hk, fun k hk => by rw [upG_ne (by omega), upG_ne (by omega)]; exact g0_gx.b k hk, (g0_gx.m.up (by omega) _).up (by omega) _, (g0_gx.o.up (by omega) _).up (by omega) _⟩
      have i := end_ok X.gw (by show 0 ≤ r.1; omega) e
      exact ⟨end_gx X e, i.2.1, i.2.2.2⟩
theorem sht_gx {tp : Nat → Nat} {n : Nat} {q : Nat × LG × List Nat} (e : shtF tp n = .ok q) : GX q.2.1 q.2.2 q.1 ∧ q.1 ≤ n ∧ q.2.2.length ≤ q.1 := by
  unfold shtF at e
  by_cases z : tKd tp n (tAt tp n 0) = 0
  · rw [if_pos z] at e
    obtain ⟨p, e1, e2⟩ := bnd_ok e
    have nb := nxA_b (tp := tp) (kd_n (tp := tp) (n := n) (a := tAt tp n 0) (by omega))
    have i := hd_gx nb.2 e1
    exact lns_gx _ _ _ _ _ i.2.1 i.2.2 i.1 e2
  · rw [if_neg z] at e; cases e
/-! the sheet and the page that a text tells -/
def gS (g : LG) (cs : List Nat) : ST := ((g 1).toNat, (g 2).toNat, (g 3).toNat, (g 0).toNat, (fun k => if k < 12 then (g (10 + k)).toNat else 0), gLw g cs 0, gLw g cs 1)
def gY (g : LG) : DY := ((g 22).toNat, (g 23).toNat, -1, fun k => if k < 4 then (g (25 + k)).toNat else 0)
theorem GLw.wfc {g : LG} {cs : List Nat} {k : Nat} {b : Bool} (X : GLw g cs k b) : WFC b (gLw g cs k) ∧ (∀ c ∈ gLw g cs k, c < (if k = 0 then 1008 else 1004) ∨ (3000 ≤ c ∧ c ≤ 3008)) ∧ (gLw g cs k = [] → g (4 + k) = 0) ∧ (gLw g cs k ≠ [] → g (4 + k) = 1 ∧ ∃ fr : Nat, g (6 + k) = fr ∧ g (8 + k) = (gLw g cs k).length ∧ fr + (gLw g cs k).length ≤ cs.length ∧ ∀ j, j < (gLw g cs k).length → (gLw g cs k).getD j 0 = cs.getD (fr + j) 0) := by
  rcases X with X | ⟨h1, fr, len, h2, h3, h4, h5⟩
  · have e : gLw g cs k = [] := by unfold gLw; rw [if_neg (by rw [X]; omega)]
    rw [e]
    exact ⟨Or.inl rfl, fun c hc => absurd hc List.not_mem_nil, fun _ => X, fun z => absurd rfl z⟩
  · have e : gLw g cs k = (cs.drop fr).take len := by unfold gLw; rw [if_pos h1, h2, h3, Int.toNat_natCast, Int.toNat_natCast]
    have le : ((cs.drop fr).take len).length = len := by rw [List.length_take, List.length_drop]; omega
    rw [e]
    refine ⟨Or.inr h5.1, h5.2, fun z => ?_, fun _ => ⟨h1, fr, h2, by rw [le]; exact h3, by rw [le]; exact h4, fun j hj => ?_⟩⟩
    · rw [z] at h5
      have := h5.1
      cases this
    · rw [le] at hj
      rw [List.getD_eq_getElem?_getD, List.getD_eq_getElem?_getD, List.getElem?_take_of_lt hj, List.getElem?_drop]
theorem GX.wf {g : LG} {cs : List Nat} {a : Nat} (X : GX g cs a) (ha : a ≤ 2000) : WFS (gS g cs) ∧ WFY (gS g cs) (gY g) := by
  obtain ⟨R, W, H, D, l, L, h1, h2, h3, h4, h5, h6, r1, w1, rw12, hh, hD, hl, hL⟩ := X.q
  have eR : sR (gS g cs) = R := by show (g 1).toNat = R; rw [h1, Int.toNat_natCast]
  have eW : sW (gS g cs) = W := by show (g 2).toNat = W; rw [h2, Int.toNat_natCast]
  have eN : sN (gS g cs) = R * W := by unfold sN; rw [eR, eW]
  have eH : sH (gS g cs) = H := by show (g 3).toNat = H; rw [h3, Int.toNat_natCast]
  have eL : sL (gS g cs) = L := by show (g 0).toNat = L; rw [h6, Int.toNat_natCast]
  have R12 : R ≤ 12 := Nat.le_trans (Nat.le_mul_of_pos_right R w1) rw12
  have W12 : W ≤ 12 := Nat.le_trans (Nat.le_mul_of_pos_left W r1) rw12
  have eD : yD (gY g) = D := by show (g 22).toNat = D; rw [h4, Int.toNat_natCast]
  have el : yL (gY g) = l := by show (g 23).toNat = l; rw [h5, Int.toNat_natCast]
  have ex : yX (gY g) = -1 := rfl
  refine ⟨⟨by omega, by omega, by omega, by omega, by omega, by omega, by omega, fun k => ?_, X.m.wfc.1, X.o.wfc.1, fun c hc => ?_⟩, ?_⟩
  · show (if k < 12 then (g (10 + k)).toNat else 0) ≤ 8
    split
    · rename_i z
      have := X.k k z
      omega
    · omega
  · have w := X.o.wfc.2.1 c hc
    rw [if_neg (by omega)] at w
    omega
  · unfold WFY
    rw [eN, eD, el, ex]
    refine ⟨hD, hl, by omega, by omega, fun k => ?_⟩
    show (if k < 4 then (g (25 + k)).toNat else 0) ≤ 9
    split
    · rename_i z
      have := X.b k z
      omega
    · omega
theorem GX.mc {g : LG} {cs : List Nat} {a : Nat} (X : GX g cs a) (ha : a ≤ 2000) (lc : cs.length ≤ 900) {h : AH} (F : Fix h) (i : ∀ k, k < 100 → ivA h 89 k = kI (g k)) (c : ∀ k, k < cs.length → k < 900 → ivA h 89 (101 + k) = kI (cs.getD k 0 : Nat)) : MC (gS g cs) (gY g) h := by
  have W := X.wf ha
  obtain ⟨R, Wd, H, D, l, L, h1, h2, h3, h4, h5, h6, r1, w1, rw12, hh, hD, hl, hL⟩ := X.q
  have law : ∀ k b, k ≤ 1 → GLw g cs k b → MLaw (gLw g cs k) k 0 h := fun k b k1 Y => by
    obtain ⟨_, _, w3, w4⟩ := Y.wfc
    by_cases z : gLw g cs k = []
    · refine ⟨?_, fun y => absurd z y⟩
      rw [if_pos z, show 0 + 4 + k = 4 + k by omega, i _ (by omega), w3 z]
    · obtain ⟨v1, fr, v2, v3, v4, v5⟩ := w4 z
      refine ⟨by rw [if_neg z, show 0 + 4 + k = 4 + k by omega, i _ (by omega), v1], fun _ => ⟨fr, by omega, by rw [show 0 + 6 + k = 6 + k by omega, i _ (by omega), v2], by rw [show 0 + 8 + k = 8 + k by omega, i _ (by omega), v3], fun j hj => ?_⟩⟩
      rw [show 0 + 101 + fr + j = 101 + (fr + j) by omega, c _ (by omega) (by omega), v5 j hj]
  refine ⟨F, W.1, W.2, ⟨?_, ?_, ?_, ?_, fun k hk => ?_, law 0 _ (by omega) X.m, law 1 _ (by omega) X.o⟩, ?_, ?_, ?_, fun k hk => ?_⟩
  · rw [i _ (by omega)]; show _ = kI ((g 0).toNat : Nat); rw [h6, Int.toNat_natCast]
  · rw [i _ (by omega)]; show kI (g 1) = kI ((g 1).toNat : Nat); rw [h1, Int.toNat_natCast]
  · rw [i _ (by omega)]; show kI (g 2) = kI ((g 2).toNat : Nat); rw [h2, Int.toNat_natCast]
  · rw [i _ (by omega)]; show kI (g 3) = kI ((g 3).toNat : Nat); rw [h3, Int.toNat_natCast]
  · rw [i _ (by omega)]
    show _ = kI ((if k < 12 then (g (10 + k)).toNat else 0 : Nat) : Int)
    have := X.k k hk
    rw [if_pos hk, Int.toNat_of_nonneg this.1, show 0 + 10 + k = 10 + k by omega]
  · rw [i _ (by omega)]; show kI (g 22) = kI ((g 22).toNat : Nat); rw [h4, Int.toNat_natCast]
  · rw [i _ (by omega)]; show kI (g 23) = kI ((g 23).toNat : Nat); rw [h5, Int.toNat_natCast]
  · rw [i _ (by omega)]; show kI (g 24) = kI (-1); rw [X.x]
  · rw [i _ (by omega)]
    show _ = kI ((if k < 4 then (g (25 + k)).toNat else 0 : Nat) : Int)
    have := X.b k hk
    rw [if_pos hk, Int.toNat_of_nonneg this.1, show 0 + 25 + k = 25 + k by omega]
