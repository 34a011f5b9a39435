/-! the codes of a law are well typed -/
theorem tyR_app : ∀ (x y : List Nat) (t : List Bool), tyR (x ++ y) t = (match tyR x t with | none => none | some t' => tyR y t')
  | [], _, _ => rfl
  | c :: r, y, t => by
    show (match ty1 c t with | none => none | some t' => tyR (r ++ y) t') = _
    rw [tyR]
    cases ty1 c t with
    | none => rfl
    | some t' => exact tyR_app r y t'
/-- codes so far: their types, and which ones they are -/
def JT (law : Nat) (t : List Bool) (cs : List Nat) : Prop := tyR cs [] = some t ∧ ∀ c ∈ cs, c < (if law = 0 then 1008 else 1004) ∨ (3000 ≤ c ∧ c ≤ 3008)
theorem JT.put {law : Nat} {t t' : List Bool} {cs : List Nat} (J : JT law t cs) {c : Nat} (e : ty1 c t = some t') (b : c < (if law = 0 then 1008 else 1004) ∨ (3000 ≤ c ∧ c ≤ 3008)) : JT law t' (cs ++ [c]) := by
  refine ⟨?_, fun x hx => ?_⟩
  · rw [tyR_app, J.1]
    show (match ty1 c t with | none => none | some t' => tyR [] t') = some t'
    rw [e]
    rfl
  · rw [List.mem_append, List.mem_singleton] at hx
    rcases hx with hx | hx
    · exact J.2 x hx
    · rw [hx]; exact b
theorem JT.push {law : Nat} {t : List Bool} {cs : List Nat} (J : JT law t cs) {c : Nat} (l : t.length < 64) (b : c < (if law = 0 then 1008 else 1004)) : JT law (false :: t) (cs ++ [c]) := by
  have b8 : c < 1008 := by split at b <;> omega
  exact J.put (by unfold ty1; rw [if_pos b8, if_pos l]) (Or.inl b)
theorem JT.ari {law : Nat} {t : List Bool} {cs : List Nat} (J : JT law (false :: false :: t) cs) {c : Nat} (b : c = 3000 ∨ c = 3001 ∨ c = 3002) : JT law (false :: t) (cs ++ [c]) := J.put (by unfold ty1; rw [if_neg (by omega), if_neg (by omega), if_pos b]) (Or.inr (by omega))
theorem JT.cmp {law : Nat} {t : List Bool} {cs : List Nat} (J : JT law (false :: false :: t) cs) {c : Nat} (b : c = 3003 ∨ c = 3004 ∨ c = 3005) : JT law (true :: t) (cs ++ [c]) := J.put (by unfold ty1; rw [if_neg (by omega), if_neg (by omega), if_neg (by omega), if_pos b]) (Or.inr (by omega))
theorem JT.log {law : Nat} {t : List Bool} {cs : List Nat} (J : JT law (true :: true :: t) cs) {c : Nat} (b : c = 3007 ∨ c = 3008) : JT law (true :: t) (cs ++ [c]) := J.put (by unfold ty1; rw [if_neg (by omega), if_neg (by omega), if_neg (by omega), if_neg (by omega), if_pos b]) (Or.inr (by omega))
theorem JT.neg {law : Nat} {t : List Bool} {cs : List Nat} (J : JT law (true :: t) cs) : JT law (true :: t) (cs ++ [3006]) := J.put rfl (Or.inr (by omega))
/-- how much room a mode needs; which type it leaves -/
def kM (md : Nat) : Nat := if md = 0 then 0 else if md = 1 ∨ md = 2 then 1 else if md = 3 ∨ md = 4 then 2 else if md = 5 then 3 else if md = 6 ∨ md = 7 then 4 else 5
def bM (md : Nat) : Bool := decide (5 ≤ md)
def iM (md : Nat) (t : List Bool) : List Bool := if md = 2 ∨ md = 4 then false :: t else if md = 7 ∨ md = 8 then true :: t else t
theorem PP_9 (tp : Nat → Nat) (n law f deep a : Nat) (cs : List Nat) : PP tp n law (f + 1) 9 deep a cs = thn (PP tp n law f 6 deep a cs) (fun a' cs' => PP tp n law f 8 deep a' cs') := rfl
theorem PP_ty {tp : Nat → Nat} {n law : Nat} : ∀ f md deep a cs a' cs' t, md ≤ 9 → deep ≤ 6 → PP tp n law f md deep a cs = .ok (a', cs') → t.length + 2 * (6 - deep) + kM md ≤ 63 → JT law (iM md t) cs → JT law (bM md :: t) cs' := by
  intro f
  induction f with
  | zero => intro md deep a cs a' cs' t _ _ h; cases h
  | succ f ih =>
    intro md deep a cs a' cs' t hm hd h hk J
    have e : md = 0 ∨ md = 1 ∨ md = 2 ∨ md = 3 ∨ md = 4 ∨ md = 5 ∨ md = 6 ∨ md = 7 ∨ md = 8 ∨ md = 9 := by omega
    have fin : ∀ {x : Nat} {c1 : List Nat} {t1 : List Bool}, (Except.ok (x, c1) : PR) = .ok (a', cs') → JT law t1 c1 → JT law t1 cs' := fun h J => by
      injection h with h
      injection h with h1 h2
      subst h2
      exact J
    rcases e with e | e | e | e | e | e | e | e | e | e <;> subst e
    · have J' : JT law t cs := J
      have hk' : t.length + 2 * (6 - deep) ≤ 63 := hk
      rw [PP] at h
      by_cases q : tKd tp n a = 23
      · rw [if_pos q] at h
        have := tNm_b q
        exact fin h (J'.push (by omega) (by split <;> omega))
      · rw [if_neg q] at h
        cases hw : wdO law (tKd tp n a) with
        | some w =>
          rw [hw] at h
          have := wdO_some hw
          exact fin h (J'.push (by omega) (by split <;> omega))
        | none =>
          rw [hw] at h
          dsimp only at h
          by_cases q2 : tKd tp n a = 35
          · rw [if_pos q2] at h
            by_cases q3 : deep = 6
            · rw [if_pos q3] at h; cases h
            · rw [if_neg q3] at h
              obtain ⟨b, c1, g1, g2⟩ := thn_ok h
              have i1 := ih 3 (deep + 1) _ cs b c1 t (by omega) (by omega) g1 (by show _ + _ + 2 ≤ 63; omega) J'
              by_cases q4 : tKd tp n b = 36
              · rw [if_pos q4] at g2
                exact fin g2 i1
              · rw [if_neg q4] at g2; cases g2
          · rw [if_neg q2] at h; cases h
    · rw [PP] at h
      obtain ⟨b, c1, g1, g2⟩ := thn_ok h
      have hk' : t.length + 2 * (6 - deep) + 1 ≤ 63 := hk
      have i1 := ih 0 deep a cs b c1 t (by omega) hd g1 (by show _ + _ + 0 ≤ 63; omega) J
      exact ih 2 deep b c1 a' cs' t (by omega) hd g2 hk i1
    · rw [PP] at h
      have J' : JT law (false :: t) cs := J
      have hk' : t.length + 2 * (6 - deep) + 1 ≤ 63 := hk
      by_cases q : tKd tp n a = 34
      · rw [if_pos q] at h
        obtain ⟨b, c1, g1, g2⟩ := thn_ok h
        have i1 := ih 0 deep _ cs b c1 (false :: t) (by omega) hd g1 (by show t.length + 1 + _ + 0 ≤ 63; omega) J'
        exact ih 2 deep b _ a' cs' t (by omega) hd g2 hk (JT.ari i1 (by omega))
      · rw [if_neg q] at h
        exact fin h J'
    · rw [PP] at h
      obtain ⟨b, c1, g1, g2⟩ := thn_ok h
      have hk' : t.length + 2 * (6 - deep) + 2 ≤ 63 := hk
      have i1 := ih 1 deep a cs b c1 t (by omega) hd g1 (by show _ + _ + 1 ≤ 63; omega) J
      exact ih 4 deep b c1 a' cs' t (by omega) hd g2 hk i1
    · rw [PP] at h
      have J' : JT law (false :: t) cs := J
      have hk' : t.length + 2 * (6 - deep) + 2 ≤ 63 := hk
      by_cases q : tKd tp n a = 32 ∨ tKd tp n a = 33
      · rw [if_pos q] at h
        obtain ⟨b, c1, g1, g2⟩ := thn_ok h
        have i1 := ih 1 deep _ cs b c1 (false :: t) (by omega) hd g1 (by show t.length + 1 + _ + 1 ≤ 63; omega) J'
        exact ih 4 deep b _ a' cs' t (by omega) hd g2 hk (JT.ari i1 (by split <;> omega))
      · rw [if_neg q] at h
        exact fin h J'
    · rw [PP] at h
      have J' : JT law t cs := J
      have hk' : t.length + 2 * (6 - deep) + 3 ≤ 63 := hk
      by_cases q : tKd tp n a = 15
      · rw [if_pos q] at h
        by_cases q3 : deep = 6
        · rw [if_pos q3] at h; cases h
        · rw [if_neg q3] at h
          obtain ⟨b, c1, g1, g2⟩ := thn_ok h
          have i1 := ih 5 (deep + 1) _ cs b c1 t (by omega) (by omega) g1 (by show _ + _ + 3 ≤ 63; omega) J'
          exact fin g2 (JT.neg i1)
      · rw [if_neg q] at h
        by_cases q2 : tKd tp n a = 37
        · rw [if_pos q2] at h
          by_cases q3 : deep = 6
          · rw [if_pos q3] at h; cases h
          · rw [if_neg q3] at h
            obtain ⟨b, c1, g1, g2⟩ := thn_ok h
            have i1 := ih 9 (deep + 1) _ cs b c1 t (by omega) (by omega) g1 (by show _ + _ + 5 ≤ 63; omega) J'
            by_cases q4 : tKd tp n b = 38
            · rw [if_pos q4] at g2
              exact fin g2 i1
            · rw [if_neg q4] at g2; cases g2
        · rw [if_neg q2] at h
          obtain ⟨b, c1, g1, g2⟩ := thn_ok h
          have i1 := ih 3 deep a cs b c1 t (by omega) hd g1 (by show _ + _ + 2 ≤ 63; omega) J'
          by_cases q4 : tKd tp n b = 39 ∨ tKd tp n b = 40 ∨ tKd tp n b = 41
          · rw [if_pos q4] at g2
            obtain ⟨b2, c2, g3, g4⟩ := thn_ok g2
            have i2 := ih 3 deep _ c1 b2 c2 (false :: t) (by omega) hd g3 (by show t.length + 1 + _ + 2 ≤ 63; omega) i1
            exact fin g4 (JT.cmp i2 (by omega))
          · rw [if_neg q4] at g2; cases g2
    · rw [PP] at h
      obtain ⟨b, c1, g1, g2⟩ := thn_ok h
      have hk' : t.length + 2 * (6 - deep) + 4 ≤ 63 := hk
      have i1 := ih 5 deep a cs b c1 t (by omega) hd g1 (by show _ + _ + 3 ≤ 63; omega) J
      exact ih 7 deep b c1 a' cs' t (by omega) hd g2 hk i1
    · rw [PP] at h
      have J' : JT law (true :: t) cs := J
      have hk' : t.length + 2 * (6 - deep) + 4 ≤ 63 := hk
      by_cases q : tKd tp n a = 13
      · rw [if_pos q] at h
        obtain ⟨b, c1, g1, g2⟩ := thn_ok h
        have i1 := ih 5 deep _ cs b c1 (true :: t) (by omega) hd g1 (by show t.length + 1 + _ + 3 ≤ 63; omega) J'
        exact ih 7 deep b _ a' cs' t (by omega) hd g2 hk (JT.log i1 (by omega))
      · rw [if_neg q] at h
        exact fin h J'
    · rw [PP] at h
      have J' : JT law (true :: t) cs := J
      have hk' : t.length + 2 * (6 - deep) + 5 ≤ 63 := hk
      by_cases q : tKd tp n a = 14
      · rw [if_pos q] at h
        obtain ⟨b, c1, g1, g2⟩ := thn_ok h
        have i1 := ih 6 deep _ cs b c1 (true :: t) (by omega) hd g1 (by show t.length + 1 + _ + 4 ≤ 63; omega) J'
        exact ih 8 deep b _ a' cs' t (by omega) hd g2 hk (JT.log i1 (by omega))
      · rw [if_neg q] at h
        exact fin h J'
    · rw [PP_9] at h
      obtain ⟨b, c1, g1, g2⟩ := thn_ok h
      have hk' : t.length + 2 * (6 - deep) + 5 ≤ 63 := hk
      have i1 := ih 6 deep a cs b c1 t (by omega) hd g1 (by show _ + _ + 4 ≤ 63; omega) J
      exact ih 8 deep b c1 a' cs' t (by omega) hd g2 hk i1
