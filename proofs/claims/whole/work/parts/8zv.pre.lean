/-! codes in front -/
def mpP (pre : List Nat) (r : PR) : PR := match r with
  | .ok q => .ok (q.1, pre ++ q.2)
  | .error e => .error e
theorem thn_mp {pre : List Nat} {r : PR} {F G : Nat → List Nat → PR} (h : ∀ a c, F a (pre ++ c) = mpP pre (G a c)) : thn (mpP pre r) F = mpP pre (thn r G) := by
  cases r with
  | ok q => exact h q.1 q.2
  | error e => rfl
theorem mp_if {pre : List Nat} {p : Prop} [Decidable p] {a b : PR} : (if p then mpP pre a else mpP pre b) = mpP pre (if p then a else b) := by split <;> rfl
theorem PP_pre {tp : Nat → Nat} {n law : Nat} {pre : List Nat} : ∀ f md deep a cs, md ≤ 9 → PP tp n law f md deep a (pre ++ cs) = mpP pre (PP tp n law f md deep a cs) := by
  intro f
  induction f with
  | zero => intro md deep a cs _; rfl
  | succ f ih =>
    intro md deep a cs hm
    have e : md = 0 ∨ md = 1 ∨ md = 2 ∨ md = 3 ∨ md = 4 ∨ md = 5 ∨ md = 6 ∨ md = 7 ∨ md = 8 ∨ md = 9 := by omega
    have seq : ∀ m1 m2, m1 ≤ 9 → m2 ≤ 9 → thn (PP tp n law f m1 deep a (pre ++ cs)) (fun a' cs' => PP tp n law f m2 deep a' cs') = mpP pre (thn (PP tp n law f m1 deep a cs) (fun a' cs' => PP tp n law f m2 deep a' cs')) := fun m1 m2 h1 h2 => by
      rw [ih m1 deep a cs h1]
      exact thn_mp (fun a c => ih m2 deep a c h2)
    have lop : ∀ m1 m2 (x : Nat), m1 ≤ 9 → m2 ≤ 9 → thn (PP tp n law f m1 deep (nxA tp n a) (pre ++ cs)) (fun a' cs' => PP tp n law f m2 deep a' (cs' ++ [x])) = mpP pre (thn (PP tp n law f m1 deep (nxA tp n a) cs) (fun a' cs' => PP tp n law f m2 deep a' (cs' ++ [x]))) := fun m1 m2 x h1 h2 => by
      rw [ih m1 deep (nxA tp n a) cs h1]
      exact thn_mp (fun a c => by rw [List.append_assoc]; exact ih m2 deep a (c ++ [x]) h2)
    rcases e with e | e | e | e | e | e | e | e | e | e <;> subst e
    · rw [PP, PP]
      by_cases q : tKd tp n a = 23
      · rw [if_pos q, if_pos q, List.append_assoc]; rfl
      · rw [if_neg q, if_neg q]
        cases wdO law (tKd tp n a) with
        | some w => dsimp only; rw [List.append_assoc]; rfl
        | none =>
          dsimp only
          by_cases q2 : tKd tp n a = 35
          · rw [if_pos q2, if_pos q2]
            by_cases q3 : deep = 6
            · rw [if_pos q3, if_pos q3]; rfl
            · rw [if_neg q3, if_neg q3, ih 3 (deep + 1) (nxA tp n a) cs (by omega)]
              exact thn_mp (fun b c => by split <;> rfl)
          · rw [if_neg q2, if_neg q2]; rfl
    · exact seq 0 2 (by omega) (by omega)
    · rw [PP, PP]
      by_cases q : tKd tp n a = 34
      · rw [if_pos q, if_pos q]; exact lop 0 2 3002 (by omega) (by omega)
      · rw [if_neg q, if_neg q]; rfl
    · exact seq 1 4 (by omega) (by omega)
    · rw [PP, PP]
      by_cases q : tKd tp n a = 32 ∨ tKd tp n a = 33
      · rw [if_pos q, if_pos q]; exact lop 1 4 _ (by omega) (by omega)
      · rw [if_neg q, if_neg q]; rfl
    · rw [PP, PP]
      by_cases q : tKd tp n a = 15
      · rw [if_pos q, if_pos q]
        by_cases q3 : deep = 6
        · rw [if_pos q3, if_pos q3]; rfl
        · rw [if_neg q3, if_neg q3, ih 5 (deep + 1) (nxA tp n a) cs (by omega)]
          exact thn_mp (fun b c => by rw [List.append_assoc]; rfl)
      · rw [if_neg q, if_neg q]
        by_cases q2 : tKd tp n a = 37
        · rw [if_pos q2, if_pos q2]
          by_cases q3 : deep = 6
          · rw [if_pos q3, if_pos q3]; rfl
          · rw [if_neg q3, if_neg q3, ih 9 (deep + 1) (nxA tp n a) cs (by omega)]
            exact thn_mp (fun b c => by split <;> rfl)
        · rw [if_neg q2, if_neg q2, ih 3 deep a cs (by omega)]
          refine thn_mp (fun b c => ?_)
          by_cases q4 : tKd tp n b = 39 ∨ tKd tp n b = 40 ∨ tKd tp n b = 41
          · rw [if_pos q4, if_pos q4, ih 3 deep (nxA tp n b) c (by omega)]
            exact thn_mp (fun b c => by rw [List.append_assoc]; rfl)
          · rw [if_neg q4, if_neg q4]; rfl
    · exact seq 5 7 (by omega) (by omega)
    · rw [PP, PP]
      by_cases q : tKd tp n a = 13
      · rw [if_pos q, if_pos q]; exact lop 5 7 3007 (by omega) (by omega)
      · rw [if_neg q, if_neg q]; rfl
    · rw [PP, PP]
      by_cases q : tKd tp n a = 14
      · rw [if_pos q, if_pos q]; exact lop 6 8 3008 (by omega) (by omega)
      · rw [if_neg q, if_neg q]; rfl
    · exact seq 6 8 (by omega) (by omega)
