/-! the grammar of laws, as a function of the text -/
def nxA (tp : Nat → Nat) (n a : Nat) : Nat := tAt tp n (tEn tp n a)
def fkF (tp : Nat → Nat) (n a k : Nat) : Nat := if tKd tp n a = 25 then 1 else k
def wdO (law k : Nat) : Option Nat := if 8 ≤ k ∧ k ≤ 11 then some (k - 8) else if law = 0 then (if k = 2 then some 4 else if k = 3 then some 5 else if k = 5 then some 6 else if k = 12 then some 7 else none) else none
abbrev PR : Type := Except (Nat × Nat) (Nat × List Nat)
def thn (r : PR) (f : Nat → List Nat → PR) : PR := match r with
  | .ok q => f q.1 q.2
  | .error e => .error e
theorem thn_ok {r : PR} {f : Nat → List Nat → PR} {q : Nat × List Nat} (h : thn r f = .ok q) : ∃ a cs, r = .ok (a, cs) ∧ f a cs = .ok q := by
  cases r with
  | ok p => exact ⟨p.1, p.2, rfl, h⟩
  | error e => cases h
def PP (tp : Nat → Nat) (n law : Nat) : Nat → Nat → Nat → Nat → List Nat → PR
  | 0, _, _, a, _ => .error (2, a)
  | f + 1, 0, deep, a, cs => if tKd tp n a = 23 then .ok (nxA tp n a, cs ++ [tNm tp n a]) else match wdO law (tKd tp n a) with
    | some w => .ok (nxA tp n a, cs ++ [1000 + w])
    | none => if tKd tp n a = 35 then (if deep = 6 then .error (4, a) else thn (PP tp n law f 3 (deep + 1) (nxA tp n a) cs) (fun a' cs' => if tKd tp n a' = 36 then .ok (nxA tp n a', cs') else .error (fkF tp n a' 2, a'))) else .error (fkF tp n a 2, a)
  | f + 1, 1, deep, a, cs => thn (PP tp n law f 0 deep a cs) (fun a' cs' => PP tp n law f 2 deep a' cs')
  | f + 1, 2, deep, a, cs => if tKd tp n a = 34 then thn (PP tp n law f 0 deep (nxA tp n a) cs) (fun a' cs' => PP tp n law f 2 deep a' (cs' ++ [3002])) else .ok (a, cs)
  | f + 1, 3, deep, a, cs => thn (PP tp n law f 1 deep a cs) (fun a' cs' => PP tp n law f 4 deep a' cs')
  | f + 1, 4, deep, a, cs => if tKd tp n a = 32 ∨ tKd tp n a = 33 then thn (PP tp n law f 1 deep (nxA tp n a) cs) (fun a' cs' => PP tp n law f 4 deep a' (cs' ++ [if tKd tp n a = 32 then 3000 else 3001])) else .ok (a, cs)
  | f + 1, 5, deep, a, cs => if tKd tp n a = 15 then (if deep = 6 then .error (4, a) else thn (PP tp n law f 5 (deep + 1) (nxA tp n a) cs) (fun a' cs' => .ok (a', cs' ++ [3006]))) else if tKd tp n a = 37 then (if deep = 6 then .error (4, a) else thn (PP tp n law f 9 (deep + 1) (nxA tp n a) cs) (fun a' cs' => if tKd tp n a' = 38 then .ok (nxA tp n a', cs') else .error (fkF tp n a' 2, a'))) else thn (PP tp n law f 3 deep a cs) (fun a' cs' => if tKd tp n a' = 39 ∨ tKd tp n a' = 40 ∨ tKd tp n a' = 41 then thn (PP tp n law f 3 deep (nxA tp n a') cs') (fun a2 cs2 => .ok (a2, cs2 ++ [3003 + (tKd tp n a' - 39)])) else .error (fkF tp n a' 2, a'))
  | f + 1, 6, deep, a, cs => thn (PP tp n law f 5 deep a cs) (fun a' cs' => PP tp n law f 7 deep a' cs')
  | f + 1, 7, deep, a, cs => if tKd tp n a = 13 then thn (PP tp n law f 5 deep (nxA tp n a) cs) (fun a' cs' => PP tp n law f 7 deep a' (cs' ++ [3007])) else .ok (a, cs)
  | f + 1, 8, deep, a, cs => if tKd tp n a = 14 then thn (PP tp n law f 6 deep (nxA tp n a) cs) (fun a' cs' => PP tp n law f 8 deep a' (cs' ++ [3008])) else .ok (a, cs)
  | f + 1, _, deep, a, cs => thn (PP tp n law f 6 deep a cs) (fun a' cs' => PP tp n law f 8 deep a' cs')
theorem tEn_b {tp : Nat → Nat} {n a : Nat} (h : a < n) : a < tEn tp n a ∧ tEn tp n a ≤ n := by
  unfold tEn
  rw [if_neg (by omega)]
  by_cases q : smB (tp a) = true
  · rw [if_pos q, run_s ⟨h, q⟩]
    have := run_spec (p := fun k => smB (tp k)) (n := n) n (a + 1) (by omega) (by omega)
    omega
  · rw [if_neg q]
    by_cases q2 : dgB (tp a) = true
    · rw [if_pos q2, run_s ⟨h, q2⟩]
      have := run_spec (p := fun k => dgB (tp k)) (n := n) n (a + 1) (by omega) (by omega)
      omega
    · rw [if_neg q2]
      omega
theorem tAt_b {tp : Nat → Nat} {n b : Nat} (h : b ≤ n) : b ≤ tAt tp n b ∧ tAt tp n b ≤ n := by
  have := run_spec (p := fun k => bkB (tp k)) (n := n) n b (by omega) h
  unfold tAt
  omega
theorem nxA_b {tp : Nat → Nat} {n a : Nat} (h : a < n) : a < nxA tp n a ∧ nxA tp n a ≤ n := by
  have h1 := tEn_b (tp := tp) h
  have h2 := tAt_b (tp := tp) h1.2
  unfold nxA
  omega
theorem kd_n {tp : Nat → Nat} {n a : Nat} (h : tKd tp n a ≠ 24) : a < n := by
  by_cases q : n ≤ a
  · exact absurd (by unfold tKd; rw [if_pos q]) h
  · omega
theorem wdO_some {law k w : Nat} (h : wdO law k = some w) : w < 8 ∧ k ≠ 24 ∧ k < 13 ∧ (law ≠ 0 → w < 4) := by
  unfold wdO at h
  by_cases q : 8 ≤ k ∧ k ≤ 11
  · rw [if_pos q] at h
    cases h
    omega
  · rw [if_neg q] at h
    by_cases q2 : law = 0
    · rw [if_pos q2] at h
      by_cases q3 : k = 2
      · rw [if_pos q3] at h; cases h; omega
      · rw [if_neg q3] at h
        by_cases q4 : k = 3
        · rw [if_pos q4] at h; cases h; omega
        · rw [if_neg q4] at h
          by_cases q5 : k = 5
          · rw [if_pos q5] at h; cases h; omega
          · rw [if_neg q5] at h
            by_cases q6 : k = 12
            · rw [if_pos q6] at h; cases h; omega
            · rw [if_neg q6] at h; cases h
    · rw [if_neg q2] at h
      cases h
/-- is it a loop's mode -/
def lpM (md : Nat) : Prop := md = 2 ∨ md = 4 ∨ md = 7 ∨ md = 8
theorem PP_go {tp : Nat → Nat} {n law : Nat} : ∀ f md deep a cs a' cs', md ≤ 9 → a ≤ n → PP tp n law f md deep a cs = .ok (a', cs') → a ≤ a' ∧ a' ≤ n ∧ cs'.length + a ≤ cs.length + a' ∧ (¬ lpM md → a < a') := by
  intro f
  induction f with
  | zero => intro md deep a cs a' cs' _ _ h; cases h
  | succ f ih =>
    intro md deep a cs a' cs' hm ha h
    have e : md = 0 ∨ md = 1 ∨ md = 2 ∨ md = 3 ∨ md = 4 ∨ md = 5 ∨ md = 6 ∨ md = 7 ∨ md = 8 ∨ md = 9 := by omega
    have seq : ∀ m1 m2, m1 ≤ 9 → m2 ≤ 9 → ¬ lpM m1 → thn (PP tp n law f m1 deep a cs) (fun a' cs' => PP tp n law f m2 deep a' cs') = .ok (a', cs') → a ≤ a' ∧ a' ≤ n ∧ cs'.length + a ≤ cs.length + a' ∧ a < a' := by
      intro m1 m2 h1 h2 nl h
      obtain ⟨b, c1, g1, g2⟩ := thn_ok h
      have i1 := ih m1 deep a cs b c1 h1 ha g1
      have i2 := ih m2 deep b c1 a' cs' h2 i1.2.1 g2
      have := i1.2.2.2 nl
      omega
    have lop : ∀ m1 m2 k (x : Nat), m1 ≤ 9 → m2 ≤ 9 → k ≠ 24 → tKd tp n a = k → thn (PP tp n law f m1 deep (nxA tp n a) cs) (fun a' cs' => PP tp n law f m2 deep a' (cs' ++ [x])) = .ok (a', cs') → a ≤ a' ∧ a' ≤ n ∧ cs'.length + a ≤ cs.length + a' := by
      intro m1 m2 k x h1 h2 k24 hk h
      have an := kd_n (tp := tp) (n := n) (a := a) (by omega)
      have nb := nxA_b (tp := tp) an
      obtain ⟨b, c1, g1, g2⟩ := thn_ok h
      have i1 := ih m1 deep _ cs b c1 h1 nb.2 g1
      have i2 := ih m2 deep b (c1 ++ [x]) a' cs' h2 i1.2.1 g2
      rw [List.length_append] at i2
      have : [x].length = 1 := rfl
      omega
    have stay : (Except.ok (a, cs) : PR) = .ok (a', cs') → a ≤ a' ∧ a' ≤ n ∧ cs'.length + a ≤ cs.length + a' := fun h => by
      injection h with h
      injection h with h1 h2
      subst h1 h2
      omega
    rcases e with e | e | e | e | e | e | e | e | e | e <;> subst e
    · -- an atom
      have h' : (if tKd tp n a = 23 then (.ok (nxA tp n a, cs ++ [tNm tp n a]) : PR) else match wdO law (tKd tp n a) with
        | some w => .ok (nxA tp n a, cs ++ [1000 + w])
        | none => if tKd tp n a = 35 then (if deep = 6 then .error (4, a) else thn (PP tp n law f 3 (deep + 1) (nxA tp n a) cs) (fun a' cs' => if tKd tp n a' = 36 then .ok (nxA tp n a', cs') else .error (fkF tp n a' 2, a'))) else .error (fkF tp n a 2, a)) = .ok (a', cs') := h
      have one : ∀ x : Nat, a < n → (Except.ok (nxA tp n a, cs ++ [x]) : PR) = .ok (a', cs') → a ≤ a' ∧ a' ≤ n ∧ cs'.length + a ≤ cs.length + a' ∧ a < a' := fun x an h => by
        have nb := nxA_b (tp := tp) an
        injection h with h
        injection h with h1 h2
        subst h1 h2
        rw [List.length_append]
        have : [x].length = 1 := rfl
        omega
      by_cases q : tKd tp n a = 23
      · rw [if_pos q] at h'
        have := one _ (kd_n (tp := tp) (n := n) (a := a) (by omega)) h'
        exact ⟨this.1, this.2.1, this.2.2.1, fun _ => this.2.2.2⟩
      · rw [if_neg q] at h'
        cases hw : wdO law (tKd tp n a) with
        | some w =>
          rw [hw] at h'
          have := one _ (kd_n (wdO_some hw).2.1) h'
          exact ⟨this.1, this.2.1, this.2.2.1, fun _ => this.2.2.2⟩
        | none =>
          rw [hw] at h'
          dsimp only at h'
          by_cases q2 : tKd tp n a = 35
          · rw [if_pos q2] at h'
            by_cases q3 : deep = 6
            · rw [if_pos q3] at h'; cases h'
            · rw [if_neg q3] at h'
              have an := kd_n (tp := tp) (n := n) (a := a) (by omega)
              have nb := nxA_b (tp := tp) an
              obtain ⟨b, c1, g1, g2⟩ := thn_ok h'
              have i1 := ih 3 (deep + 1) _ cs b c1 (by omega) nb.2 g1
              by_cases q4 : tKd tp n b = 36
              · rw [if_pos q4] at g2
                have bn := kd_n (tp := tp) (n := n) (a := b) (by omega)
                have nb2 := nxA_b (tp := tp) bn
                injection g2 with g2
                injection g2 with g3 g4
                subst g3 g4
                omega
              · rw [if_neg q4] at g2; cases g2
          · rw [if_neg q2] at h'; cases h'
    · have := seq 0 2 (by omega) (by omega) (by unfold lpM; omega) h
      exact ⟨this.1, this.2.1, this.2.2.1, fun _ => this.2.2.2⟩
    · have h' : (if tKd tp n a = 34 then thn (PP tp n law f 0 deep (nxA tp n a) cs) (fun a' cs' => PP tp n law f 2 deep a' (cs' ++ [3002])) else .ok (a, cs)) = .ok (a', cs') := h
      by_cases q : tKd tp n a = 34
      · rw [if_pos q] at h'
        have := lop 0 2 34 3002 (by omega) (by omega) (by omega) q h'
        exact ⟨this.1, this.2.1, this.2.2, fun z => absurd (by unfold lpM; omega) z⟩
      · rw [if_neg q] at h'
        have := stay h'
        exact ⟨this.1, this.2.1, this.2.2, fun z => absurd (by unfold lpM; omega) z⟩
    · have := seq 1 4 (by omega) (by omega) (by unfold lpM; omega) h
      exact ⟨this.1, this.2.1, this.2.2.1, fun _ => this.2.2.2⟩
    · have h' : (if tKd tp n a = 32 ∨ tKd tp n a = 33 then thn (PP tp n law f 1 deep (nxA tp n a) cs) (fun a' cs' => PP tp n law f 4 deep a' (cs' ++ [if tKd tp n a = 32 then 3000 else 3001])) else .ok (a, cs)) = .ok (a', cs') := h
      by_cases q : tKd tp n a = 32 ∨ tKd tp n a = 33
      · rw [if_pos q] at h'
        have := lop 1 4 (tKd tp n a) (if tKd tp n a = 32 then 3000 else 3001) (by omega) (by omega) (by omega) rfl h'
        exact ⟨this.1, this.2.1, this.2.2, fun z => absurd (by unfold lpM; omega) z⟩
      · rw [if_neg q] at h'
        have := stay h'
        exact ⟨this.1, this.2.1, this.2.2, fun z => absurd (by unfold lpM; omega) z⟩
    · -- a unit
      have h' : (if tKd tp n a = 15 then (if deep = 6 then .error (4, a) else thn (PP tp n law f 5 (deep + 1) (nxA tp n a) cs) (fun a' cs' => .ok (a', cs' ++ [3006]))) else if tKd tp n a = 37 then (if deep = 6 then .error (4, a) else thn (PP tp n law f 9 (deep + 1) (nxA tp n a) cs) (fun a' cs' => if tKd tp n a' = 38 then .ok (nxA tp n a', cs') else .error (fkF tp n a' 2, a'))) else thn (PP tp n law f 3 deep a cs) (fun a' cs' => if tKd tp n a' = 39 ∨ tKd tp n a' = 40 ∨ tKd tp n a' = 41 then thn (PP tp n law f 3 deep (nxA tp n a') cs') (fun a2 cs2 => .ok (a2, cs2 ++ [3003 + (tKd tp n a' - 39)])) else .error (fkF tp n a' 2, a'))) = .ok (a', cs') := h
      by_cases q : tKd tp n a = 15
      · rw [if_pos q] at h'
        by_cases q3 : deep = 6
        · rw [if_pos q3] at h'; cases h'
        · rw [if_neg q3] at h'
          have an := kd_n (tp := tp) (n := n) (a := a) (by omega)
          have nb := nxA_b (tp := tp) an
          obtain ⟨b, c1, g1, g2⟩ := thn_ok h'
          have i1 := ih 5 (deep + 1) _ cs b c1 (by omega) nb.2 g1
          injection g2 with g2
          injection g2 with g3 g4
          subst g3 g4
          rw [List.length_append]
          have : [3006].length = 1 := rfl
          omega
      · rw [if_neg q] at h'
        by_cases q2 : tKd tp n a = 37
        · rw [if_pos q2] at h'
          by_cases q3 : deep = 6
          · rw [if_pos q3] at h'; cases h'
          · rw [if_neg q3] at h'
            have an := kd_n (tp := tp) (n := n) (a := a) (by omega)
            have nb := nxA_b (tp := tp) an
            obtain ⟨b, c1, g1, g2⟩ := thn_ok h'
            have i1 := ih 9 (deep + 1) _ cs b c1 (by omega) nb.2 g1
            by_cases q4 : tKd tp n b = 38
            · rw [if_pos q4] at g2
              have bn := kd_n (tp := tp) (n := n) (a := b) (by omega)
              have nb2 := nxA_b (tp := tp) bn
              injection g2 with g2
              injection g2 with g3 g4
              subst g3 g4
              omega
            · rw [if_neg q4] at g2; cases g2
        · rw [if_neg q2] at h'
          obtain ⟨b, c1, g1, g2⟩ := thn_ok h'
          have i1 := ih 3 deep a cs b c1 (by omega) ha g1
          by_cases q4 : tKd tp n b = 39 ∨ tKd tp n b = 40 ∨ tKd tp n b = 41
          · rw [if_pos q4] at g2
            have bn := kd_n (tp := tp) (n := n) (a := b) (by omega)
            have nb2 := nxA_b (tp := tp) bn
            obtain ⟨b2, c2, g3, g4⟩ := thn_ok g2
            have i2 := ih 3 deep _ c1 b2 c2 (by omega) nb2.2 g3
            injection g4 with g4
            injection g4 with g5 g6
            subst g5 g6
            rw [List.length_append]
            have : [3003 + (tKd tp n b - 39)].length = 1 := rfl
            omega
          · rw [if_neg q4] at g2; cases g2
    · have := seq 5 7 (by omega) (by omega) (by unfold lpM; omega) h
      exact ⟨this.1, this.2.1, this.2.2.1, fun _ => this.2.2.2⟩
    · have h' : (if tKd tp n a = 13 then thn (PP tp n law f 5 deep (nxA tp n a) cs) (fun a' cs' => PP tp n law f 7 deep a' (cs' ++ [3007])) else .ok (a, cs)) = .ok (a', cs') := h
      by_cases q : tKd tp n a = 13
      · rw [if_pos q] at h'
        have := lop 5 7 13 3007 (by omega) (by omega) (by omega) q h'
        exact ⟨this.1, this.2.1, this.2.2, fun z => absurd (by unfold lpM; omega) z⟩
      · rw [if_neg q] at h'
        have := stay h'
        exact ⟨this.1, this.2.1, this.2.2, fun z => absurd (by unfold lpM; omega) z⟩
    · have h' : (if tKd tp n a = 14 then thn (PP tp n law f 6 deep (nxA tp n a) cs) (fun a' cs' => PP tp n law f 8 deep a' (cs' ++ [3008])) else .ok (a, cs)) = .ok (a', cs') := h
      by_cases q : tKd tp n a = 14
      · rw [if_pos q] at h'
        have := lop 6 8 14 3008 (by omega) (by omega) (by omega) q h'
        exact ⟨this.1, this.2.1, this.2.2, fun z => absurd (by unfold lpM; omega) z⟩
      · rw [if_neg q] at h'
        have := stay h'
        exact ⟨this.1, this.2.1, this.2.2, fun z => absurd (by unfold lpM; omega) z⟩
    · have := seq 6 8 (by omega) (by omega) (by unfold lpM; omega) h
      exact ⟨this.1, this.2.1, this.2.2.1, fun _ => this.2.2.2⟩
