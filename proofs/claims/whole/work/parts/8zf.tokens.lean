/-! tokens, and the next one of the reference -/
def run (p : Nat → Bool) (n k : Nat) : Nat := if k < n ∧ p k = true then run p n (k + 1) else k
termination_by n - k
theorem run_s {p : Nat → Bool} {n k : Nat} (h : k < n ∧ p k = true) : run p n k = run p n (k + 1) := by rw [run, if_pos h]
theorem run_e {p : Nat → Bool} {n k : Nat} (h : ¬ (k < n ∧ p k = true)) : run p n k = k := by rw [run, if_neg h]
theorem run_spec {p : Nat → Bool} {n : Nat} : ∀ m k, n - k ≤ m → k ≤ n → k ≤ run p n k ∧ run p n k ≤ n ∧ (∀ i, k ≤ i → i < run p n k → i < n ∧ p i = true) ∧ ¬ (run p n k < n ∧ p (run p n k) = true) := by
  intro m
  induction m with
  | zero =>
    intro k h1 h2
    have q : ¬ (k < n ∧ p k = true) := fun z => by omega
    rw [run_e q]
    exact ⟨by omega, by omega, fun i _ _ => by omega, q⟩
  | succ m ih =>
    intro k h1 h2
    by_cases q : k < n ∧ p k = true
    · rw [run_s q]
      obtain ⟨a1, a2, a3, a4⟩ := ih (k + 1) (by omega) (by omega)
      refine ⟨by omega, a2, fun i h3 h4 => ?_, a4⟩
      by_cases z : i = k
      · rw [z]; exact q
      · exact a3 i (by omega) h4
    · rw [run_e q]
      exact ⟨by omega, by omega, fun i _ _ => by omega, q⟩
def smB (c : Nat) : Bool := decide (97 ≤ c ∧ c ≤ 122)
def dgB (c : Nat) : Bool := decide (48 ≤ c ∧ c ≤ 57)
def bkB (c : Nat) : Bool := decide (c = 10 ∨ c = 32)
def sgG (c : Nat) : Nat → Nat
  | 0 => 25
  | i + 1 => if c = strS.getD i 0 then 30 + i else sgG c i
def nmF (tp : Nat → Nat) (a : Nat) : Nat → Nat
  | 0 => 0
  | k + 1 => 10 * nmF tp a k + (tp (a + k) - 48)
/-- where the token begins that follows a place, where it ends, of which sort it is, its number -/
def tAt (tp : Nat → Nat) (n b : Nat) : Nat := run (fun k => bkB (tp k)) n b
def tEn (tp : Nat → Nat) (n a : Nat) : Nat := if n ≤ a then a else if smB (tp a) = true then run (fun k => smB (tp k)) n a else if dgB (tp a) = true then run (fun k => dgB (tp k)) n a else a + 1
def tKd (tp : Nat → Nat) (n a : Nat) : Nat := if n ≤ a then 24 else if smB (tp a) = true then keyF tp a (tEn tp n a) else if dgB (tp a) = true then (if tEn tp n a - a ≤ 3 then 23 else 25) else sgG (tp a) 12
def tNm (tp : Nat → Nat) (n a : Nat) : Nat := nmF tp a (tEn tp n a - a)
abbrev FTk (h h' : AH) : Prop := Fr (fun x k => x = 88 ∧ (k = 6 ∨ k = 7 ∨ k = 9 ∨ k = 10)) JM h h'
theorem OX.fr {I J : Nat → Nat → Prop} {h h' : AH} (O : OX h) (e : Fr I J h h') (hi : ∀ x k, I x k → x < 1000000) : OX h' := by
  have i : ∀ x k, 1000000 ≤ x → ivA h' x k = ivA h x k := fun x k hx => e.2.2.2.2.2.1 x k (fun z => by have := hi x k z; omega)
  refine ⟨by rw [i _ _ (by omega)]; exact O.1, fun j hj => ?_⟩
  have o := O.2 j hj
  rw [e.1, e.2.1, e.2.2.1, i _ _ (by omega)]
  exact ⟨o.1, o.2.1, o.2.2.1, o.2.2.2.1, o.2.2.2.2.1, fun k hk => by rw [i _ _ (by omega)]; exact o.2.2.2.2.2 k hk⟩
theorem TR.fr {tp : Nat → Nat} {n : Nat} {I J : Nat → Nat → Prop} {h h' : AH} (R : TR tp n h) (e : Fr I J h h') (h1 : ¬ I 88 8) (h2 : ∀ k, ¬ I 91 k) : TR tp n h' := ⟨by rw [e.2.2.2.2.2.1 88 8 h1]; exact R.i, R.le, fun k hk => by rw [e.2.2.2.2.2.1 91 k (h2 k)]; exact R.v k hk, R.b⟩
theorem M_see_c {tp : Nat → Nat} {n d k : Nat} {h : AH} (F : Fix h) (R : TR tp n h) (hk : k ≤ n) (hd : 1 ≤ d) {K : Int32 → AH → Prop} : CallI d m_M_see [.ref 88, .int (kI k)] h K ↔ K (kI (if k < n then ((tp k : Nat) : Int) else -1)) h := by
  have le := R.le
  refine Ret.I (d := 1) (ret_of (s_M_see_0 ?_)) hd
  rw [kd_88 F, R.i]
  refine ⟨rfl, ?_⟩
  by_cases q : k < n
  · rw [if_neg (by rw [decide_eq_true_eq, kI_le (by omega) (by omega) (by omega) (by omega)]; omega), rv_88_3 F, kd_91 F, ln_91 F, ix_kI (by omega), R.v k q, if_pos q]
    exact ⟨rfl, rfl, inB_kI (by omega) (by omega), rfl, rfl⟩
  · rw [if_pos (by rw [decide_eq_true_eq, kI_le (by omega) (by omega) (by omega) (by omega)]; omega), if_neg q]
    exact ⟨rfl, rfl⟩
theorem M_isSmall_c {d : Nat} {c : Int} {h : AH} (c1 : -1 ≤ c) (c2 : c < 256) (hd : 1 ≤ d) {K : Int32 → AH → Prop} : CallI d m_M_isSmall [.int (kI c)] h K ↔ K (bI32 (97 ≤ c ∧ c ≤ 122)) h := by
  refine Ret.I (d := 1) (ret_of (s_M_isSmall_0 ?_)) hd
  unfold bI32
  by_cases q1 : c < 97
  · rw [if_pos (by rw [decide_eq_true_eq, kI_lt (by omega) (by omega) (by omega) (by omega)]; exact q1), if_neg (by omega)]
    exact ⟨by decide, rfl, rfl⟩
  · rw [if_neg (by rw [decide_eq_true_eq, kI_lt (by omega) (by omega) (by omega) (by omega)]; exact q1)]
    by_cases q2 : 122 < c
    · rw [if_pos (by rw [decide_eq_true_eq, kI_lt (by omega) (by omega) (by omega) (by omega)]; exact q2), if_neg (by omega)]
      exact ⟨by decide, rfl, rfl⟩
    · rw [if_neg (by rw [decide_eq_true_eq, kI_lt (by omega) (by omega) (by omega) (by omega)]; exact q2), if_pos (by omega)]
      exact ⟨by decide, rfl, rfl⟩
theorem M_isDigit_c {d : Nat} {c : Int} {h : AH} (c1 : -1 ≤ c) (c2 : c < 256) (hd : 1 ≤ d) {K : Int32 → AH → Prop} : CallI d m_M_isDigit [.int (kI c)] h K ↔ K (bI32 (48 ≤ c ∧ c ≤ 57)) h := by
  refine Ret.I (d := 1) (ret_of (s_M_isDigit_0 ?_)) hd
  unfold bI32
  by_cases q1 : c < 48
  · rw [if_pos (by rw [decide_eq_true_eq, kI_lt (by omega) (by omega) (by omega) (by omega)]; exact q1), if_neg (by omega)]
    exact ⟨by decide, rfl, rfl⟩
  · rw [if_neg (by rw [decide_eq_true_eq, kI_lt (by omega) (by omega) (by omega) (by omega)]; exact q1)]
    by_cases q2 : 57 < c
    · rw [if_pos (by rw [decide_eq_true_eq, kI_lt (by omega) (by omega) (by omega) (by omega)]; exact q2), if_neg (by omega)]
      exact ⟨by decide, rfl, rfl⟩
    · rw [if_neg (by rw [decide_eq_true_eq, kI_lt (by omega) (by omega) (by omega) (by omega)]; exact q2), if_pos (by omega)]
      exact ⟨by decide, rfl, rfl⟩
theorem nmF_lt {tp : Nat → Nat} {a : Nat} : ∀ k, k ≤ 3 → (∀ i, i < k → dgB (tp (a + i)) = true) → nmF tp a k < 10 ^ k
  | 0, _, _ => by show 0 < 1; omega
  | k + 1, h, hd => by
    have ih := nmF_lt k (by omega) (fun i hi => hd i (by omega))
    have d := hd k (by omega)
    unfold dgB at d
    rw [decide_eq_true_eq] at d
    show 10 * nmF tp a k + (tp (a + k) - 48) < 10 ^ (k + 1)
    rw [Nat.pow_succ]
    omega
theorem sgG_b (c : Nat) : ∀ i, sgG c i = 25 ∨ (30 ≤ sgG c i ∧ sgG c i < 30 + i)
  | 0 => Or.inl rfl
  | i + 1 => by
    have ih := sgG_b c i
    show (if c = strS.getD i 0 then 30 + i else sgG c i) = 25 ∨ (30 ≤ (if c = strS.getD i 0 then 30 + i else sgG c i) ∧ (if c = strS.getD i 0 then 30 + i else sgG c i) < 30 + (i + 1))
    split <;> omega
set_option maxHeartbeats 1000000 in
theorem M_next_g {tp : Nat → Nat} {n b : Nat} {h : AH} (F : Fix h) (O : OX h) (R : TR tp n h) (i7 : ivA h 88 7 = kI b) (bn : b ≤ n) : GV 6 m_M_next [.ref 88] h (fun h' => FTk h h' ∧ ivA h' 88 6 = kI (tAt tp n b : Nat) ∧ ivA h' 88 7 = kI (tEn tp n (tAt tp n b) : Nat) ∧ ivA h' 88 9 = kI (tKd tp n (tAt tp n b) : Nat) ∧ (tKd tp n (tAt tp n b) = 23 → ivA h' 88 10 = kI (tNm tp n (tAt tp n b) : Nat))) := by
  have le := R.le
  have sp := run_spec (p := fun k => bkB (tp k)) (n := n) n b (by omega) bn
  have eA : tAt tp n b = run (fun k => bkB (tp k)) n b := rfl
  rw [← eA] at sp
  obtain ⟨A, hA⟩ : ∃ A, A = tAt tp n b := ⟨_, rfl⟩
  rw [← hA] at sp ⊢
  obtain ⟨s1, s2, s3, s4⟩ := sp
  have step : ∀ h2, FTk h h2 → Fix h2 ∧ OX h2 ∧ TR tp n h2 := fun h2 e => ⟨e.fix F, O.fr e (fun x k z => by omega), R.fr e (by omega) (fun k => by omega)⟩
  have up : ∀ h2 k x, FTk h h2 → (k = 6 ∨ k = 7 ∨ k = 9 ∨ k = 10) → FTk h (stI h2 88 k x) := fun h2 k x e hk => e.stI ⟨rfl, hk⟩ x
  refine GVo (s_M_next_0 ?_)
  rw [kd_88 F, i7]
  refine ⟨rfl, rfl, ?_⟩
  suffices H : ∀ k, k ≤ A → b ≤ k → ∀ h2, FTk h h2 → ivA h2 88 6 = kI k → Safe 5 m_M_next (8, [.ref 88, unV], [], h2) (fun v h' => Eqv v none ∧ FTk h h' ∧ ivA h' 88 6 = kI A ∧ ivA h' 88 7 = kI (tEn tp n A : Nat) ∧ ivA h' 88 9 = kI (tKd tp n A : Nat) ∧ (tKd tp n A = 23 → ivA h' 88 10 = kI (tNm tp n A : Nat))) by
    exact H b s1 (by omega) _ (up h 6 _ (Fr_rfl _ _ _) (by omega)) (by rw [iv_stI, if_pos ⟨rfl, rfl⟩])
  refine down_ind A ?_ ?_
  · intro _ h2 e2 j6
    obtain ⟨F2, O2, R2⟩ := step h2 e2
    refine s_M_next_8 ?_
    rw [kd_88 F2, j6, M_see_c F2 R2 s2 (by omega)]
    refine ⟨rfl, rfl, ?_⟩
    have tb : A < n → tp A < 256 := fun z => R.b A z
    have nb : A < n → tp A ≠ 10 ∧ tp A ≠ 32 := fun z => by
      have : ¬ bkB (tp A) = true := fun y => s4 ⟨z, y⟩
      unfold bkB at this
      rw [decide_eq_true_eq] at this
      omega
    obtain ⟨c, hc⟩ : ∃ c : Int, c = if A < n then ((tp A : Nat) : Int) else -1 := ⟨_, rfl⟩
    have cb : -1 ≤ c ∧ c < 256 ∧ c ≠ 10 ∧ c ≠ 32 := by
      rw [hc]
      split
      · rename_i z
        have := tb z
        have := nb z
        omega
      · omega
    rw [← hc, if_neg (by rw [decide_eq_true_eq, kI_inj (by omega) (by omega) (by omega) (by omega)]; omega), kd_88 F2, j6, M_see_c F2 R2 s2 (by omega), ← hc, if_pos (by rw [Bool.not_eq_true', decide_eq_false_iff_not, kI_inj (by omega) (by omega) (by omega) (by omega)]; omega), kd_88 F2, j6]
    have e3 := up h2 7 (kI A) e2 (by omega)
    obtain ⟨h3, h3e⟩ : ∃ h3, h3 = stI h2 88 7 (kI A) := ⟨_, rfl⟩
    rw [← h3e] at e3 ⊢
    have k6 : ivA h3 88 6 = kI A := by rw [h3e, iv_stI, if_neg (by omega)]; exact j6
    have k7 : ivA h3 88 7 = kI A := by rw [h3e, iv_stI, if_pos ⟨rfl, rfl⟩]
    obtain ⟨F3, O3, R3⟩ := step h3 e3
    rw [kd_88 F3, k6, R3.i]
    refine ⟨rfl, rfl, rfl, rfl, rfl, rfl, ?_⟩
    by_cases q : A < n
    · have T := tb q
      rw [if_pos q] at hc
      rw [if_pos (by rw [decide_eq_true_eq, kI_lt (by omega) (by omega) (by omega) (by omega)]; omega)]
      refine ⟨rfl, rfl, ?_⟩
      rw [M_see_c F3 R3 s2 (by omega), if_pos q, M_isSmall_c (by omega) (by omega) (by omega)]
      by_cases qs : smB (tp A) = true
      · -- a word
        have qs' := qs
        unfold smB at qs'
        rw [decide_eq_true_eq] at qs'
        rw [if_neg (by rw [dec_b0]; exact fun z => z (by omega))]
        have sp2 := run_spec (p := fun k => smB (tp k)) (n := n) n A (by omega) s2
        have eE : tEn tp n A = run (fun k => smB (tp k)) n A := by unfold tEn; rw [if_neg (by omega), if_pos qs]
        rw [← eE] at sp2
        have eK : tKd tp n A = keyF tp A (tEn tp n A) := by unfold tKd; rw [if_neg (by omega), if_pos qs]
        obtain ⟨E, hE⟩ : ∃ E, E = tEn tp n A := ⟨_, rfl⟩
        rw [← hE] at sp2 eK ⊢
        obtain ⟨p1, p2, p3, p4⟩ := sp2
        suffices H : ∀ k, k ≤ E → A ≤ k → ∀ h4, FTk h h4 → ivA h4 88 6 = kI A → ivA h4 88 7 = kI k → Safe 5 m_M_next (89, [.ref 88, unV], [], h4) (fun v h' => Eqv v none ∧ FTk h h' ∧ ivA h' 88 6 = kI A ∧ ivA h' 88 7 = kI E ∧ ivA h' 88 9 = kI (tKd tp n A : Nat) ∧ (tKd tp n A = 23 → ivA h' 88 10 = kI (tNm tp n A : Nat))) by
          exact H A p1 (by omega) h3 e3 k6 k7
        refine down_ind E ?_ ?_
        · intro _ h4 e4 m6 m7
          obtain ⟨F4, O4, R4⟩ := step h4 e4
          refine s_M_next_89 ?_
          rw [kd_88 F4, m7, M_see_c F4 R4 p2 (by omega)]
          refine ⟨rfl, rfl, ?_⟩
          have cE : -1 ≤ (if E < n then ((tp E : Nat) : Int) else -1) ∧ (if E < n then ((tp E : Nat) : Int) else -1) < 256 ∧ ¬ (97 ≤ (if E < n then ((tp E : Nat) : Int) else -1) ∧ (if E < n then ((tp E : Nat) : Int) else -1) ≤ 122) := by
            split
            · rename_i z
              have := R.b E z
              have z2 : ¬ smB (tp E) = true := fun y => p4 ⟨z, y⟩
              unfold smB at z2
              rw [decide_eq_true_eq] at z2
              omega
            · omega
          rw [M_isSmall_c cE.1 cE.2.1 (by omega), if_pos (by rw [dec_b0]; exact cE.2.2), kd_88 F4]
          refine ⟨rfl, ?_⟩
          rw [M_keyAt_c F4 O4 R4 m6 m7 p1 p2 (by omega), kd_88 F4]
          refine ⟨rfl, rfl, up h4 9 _ e4 (by omega), by rw [iv_stI, if_neg (by omega)]; exact m6, by rw [iv_stI, if_neg (by omega)]; exact m7, by rw [iv_stI, if_pos ⟨rfl, rfl⟩, eK], fun z => ?_⟩
          exfalso
          rw [eK] at z
          unfold keyF at z
          have kb : ∀ (w : List Nat) (l : List (List Nat)) (j : Nat), kyH w l j = 22 ∨ kyH w l j < j + l.length := by
            intro w l
            induction l with
            | nil => intro j; exact Or.inl rfl
            | cons x r ih =>
              intro j
              show (if x = w then j else kyH w r (j + 1)) = 22 ∨ (if x = w then j else kyH w r (j + 1)) < j + (r.length + 1)
              have := ih (j + 1)
              split <;> omega
          have := kb (wdL tp A E) keyL 0
          have l16 : keyL.length = 16 := rfl
          omega
        · intro k hk ih hAk h4 e4 m6 m7
          obtain ⟨F4, O4, R4⟩ := step h4 e4
          obtain ⟨z1, z2⟩ := p3 k hAk hk
          have z2' : smB (tp k) = true := z2
          unfold smB at z2'
          rw [decide_eq_true_eq] at z2'
          refine s_M_next_89 ?_
          rw [kd_88 F4, m7, M_see_c F4 R4 (by omega) (by omega), if_pos z1, M_isSmall_c (by omega) (by omega) (by omega), if_neg (by rw [dec_b0]; exact fun z => z (by omega)), kd_88 F4, m7, kI_add]
          refine ⟨rfl, rfl, rfl, rfl, ?_⟩
          exact ih (by omega) _ (up h4 7 _ e4 (by omega)) (by rw [iv_stI, if_neg (by omega)]; exact m6) (by rw [iv_stI, if_pos ⟨rfl, rfl⟩]; rfl)
      · have qs' : ¬ (97 ≤ tp A ∧ tp A ≤ 122) := by
          unfold smB at qs
          rw [decide_eq_true_eq] at qs
          exact qs
        rw [if_pos (by rw [dec_b0]; omega), kd_88 F3, k6, M_see_c F3 R3 s2 (by omega), if_pos q, M_isDigit_c (by omega) (by omega) (by omega)]
        refine ⟨rfl, rfl, ?_⟩
        by_cases qd : dgB (tp A) = true
        · -- a number
          have qd' := qd
          unfold dgB at qd'
          rw [decide_eq_true_eq] at qd'
          rw [if_neg (by rw [dec_b0]; exact fun z => z (by omega)), kd_88 F3]
          refine ⟨rfl, ?_⟩
          have sp2 := run_spec (p := fun k => dgB (tp k)) (n := n) n A (by omega) s2
          have eE : tEn tp n A = run (fun k => dgB (tp k)) n A := by unfold tEn; rw [if_neg (by omega), if_neg qs, if_pos qd]
          rw [← eE] at sp2
          have eK : tKd tp n A = if tEn tp n A - A ≤ 3 then 23 else 25 := by unfold tKd; rw [if_neg (by omega), if_neg qs, if_pos qd]
          have eN : tNm tp n A = nmF tp A (tEn tp n A - A) := rfl
          obtain ⟨E, hE⟩ : ∃ E, E = tEn tp n A := ⟨_, rfl⟩
          rw [← hE] at sp2 eK eN ⊢
          obtain ⟨p1, p2, p3, p4⟩ := sp2
          have dg : ∀ i, A + i < E → dgB (tp (A + i)) = true := fun i hi => (p3 (A + i) (by omega) hi).2
          have nb3 : ∀ k, k ≤ 3 → A + k ≤ E → nmF tp A k < 1000 := fun k h1 h2 => by
            have := nmF_lt k h1 (fun i hi => dg i (by omega))
            have p : 10 ^ k ≤ 10 ^ 3 := Nat.pow_le_pow_right (by omega) h1
            have p3 : (10 : Nat) ^ 3 = 1000 := rfl
            omega
          suffices H : ∀ k, k ≤ E → A ≤ k → ∀ h4, FTk h h4 → ivA h4 88 6 = kI A → ivA h4 88 7 = kI k → (k - A ≤ 3 → ivA h4 88 10 = kI (nmF tp A (k - A) : Nat)) → Safe 5 m_M_next (146, [.ref 88, unV], [], h4) (fun v h' => Eqv v none ∧ FTk h h' ∧ ivA h' 88 6 = kI A ∧ ivA h' 88 7 = kI E ∧ ivA h' 88 9 = kI (tKd tp n A : Nat) ∧ (tKd tp n A = 23 → ivA h' 88 10 = kI (tNm tp n A : Nat))) by
            exact H A p1 (by omega) _ (up h3 10 _ e3 (by omega)) (by rw [iv_stI, if_neg (by omega)]; exact k6) (by rw [iv_stI, if_neg (by omega)]; exact k7) (fun _ => by rw [iv_stI, if_pos ⟨rfl, rfl⟩, Nat.sub_self]; rfl)
          refine down_ind E ?_ ?_
          · intro _ h4 e4 m6 m7 m10
            obtain ⟨F4, O4, R4⟩ := step h4 e4
            refine s_M_next_146 ?_
            rw [kd_88 F4, m7, M_see_c F4 R4 p2 (by omega)]
            refine ⟨rfl, rfl, ?_⟩
            have cE : -1 ≤ (if E < n then ((tp E : Nat) : Int) else -1) ∧ (if E < n then ((tp E : Nat) : Int) else -1) < 256 ∧ ¬ (48 ≤ (if E < n then ((tp E : Nat) : Int) else -1) ∧ (if E < n then ((tp E : Nat) : Int) else -1) ≤ 57) := by
              split
              · rename_i z
                have := R.b E z
                have z2 : ¬ dgB (tp E) = true := fun y => p4 ⟨z, y⟩
                unfold dgB at z2
                rw [decide_eq_true_eq] at z2
                omega
              · omega
            rw [M_isDigit_c cE.1 cE.2.1 (by omega), if_pos (by rw [dec_b0]; exact cE.2.2), kd_88 F4, m6, m7, kI_sub]
            refine ⟨rfl, rfl, ?_⟩
            by_cases q3 : E - A ≤ 3
            · rw [if_pos (by rw [decide_eq_true_eq, kI_le (by omega) (by omega) (by omega) (by omega)]; omega)]
              rw [if_pos q3] at eK
              exact ⟨rfl, rfl, up h4 9 _ e4 (by omega), by rw [iv_stI, if_neg (by omega)]; exact m6, by rw [iv_stI, if_neg (by omega)]; exact m7, by rw [iv_stI, if_pos ⟨rfl, rfl⟩, eK]; rfl, fun _ => by rw [iv_stI, if_neg (by omega), eN]; exact m10 q3⟩
            · rw [if_neg (by rw [decide_eq_true_eq, kI_le (by omega) (by omega) (by omega) (by omega)]; omega)]
              rw [if_neg q3] at eK
              exact ⟨rfl, rfl, up h4 9 _ e4 (by omega), by rw [iv_stI, if_neg (by omega)]; exact m6, by rw [iv_stI, if_neg (by omega)]; exact m7, by rw [iv_stI, if_pos ⟨rfl, rfl⟩, eK]; rfl, fun z => by rw [eK] at z; omega⟩
          · intro k hk ih hAk h4 e4 m6 m7 m10
            obtain ⟨F4, O4, R4⟩ := step h4 e4
            obtain ⟨z1, z2⟩ := p3 k hAk hk
            have z2' : dgB (tp k) = true := z2
            unfold dgB at z2'
            rw [decide_eq_true_eq] at z2'
            refine s_M_next_146 ?_
            rw [kd_88 F4, m7, M_see_c F4 R4 (by omega) (by omega), if_pos z1, M_isDigit_c (by omega) (by omega) (by omega), if_neg (by rw [dec_b0]; exact fun z => z (by omega)), kd_88 F4, m6, m7, kI_sub]
            refine ⟨rfl, rfl, rfl, rfl, ?_⟩
            by_cases q3 : 3 ≤ k - A
            · rw [if_pos (by rw [decide_eq_true_eq, kI_le (by omega) (by omega) (by omega) (by omega)]; omega)]
              refine s_M_next_196 ?_
              rw [kd_88 F4, m7, kI_add]
              refine ⟨rfl, rfl, ?_⟩
              exact ih (by omega) _ (up h4 7 _ e4 (by omega)) (by rw [iv_stI, if_neg (by omega)]; exact m6) (by rw [iv_stI, if_pos ⟨rfl, rfl⟩]; rfl) (fun z => by omega)
            · rw [if_neg (by rw [decide_eq_true_eq, kI_le (by omega) (by omega) (by omega) (by omega)]; omega), M_see_c F4 R4 (by omega) (by omega), if_pos z1, m10 (by omega), kI_mul, kI_add, kI_sub, kd_88 F4]
              refine ⟨rfl, rfl, rfl, rfl, ?_⟩
              refine s_M_next_196 ?_
              rw [kd_stI, kd_88 F4, iv_stI, if_neg (by omega), m7, kI_add]
              refine ⟨rfl, rfl, ?_⟩
              refine ih (by omega) _ (up _ 7 _ (up h4 10 _ e4 (by omega)) (by omega)) (by rw [iv_stI, if_neg (by omega), iv_stI, if_neg (by omega)]; exact m6) (by rw [iv_stI, if_pos ⟨rfl, rfl⟩]; rfl) (fun z => ?_)
              rw [iv_stI, if_neg (by omega), iv_stI, if_pos ⟨rfl, rfl⟩]
              have ek : k + 1 - A = (k - A) + 1 := by omega
              rw [ek]
              show kI (10 * (nmF tp A (k - A) : Int) + (tp k : Int) - 48) = kI ((10 * nmF tp A (k - A) + (tp (A + (k - A)) - 48) : Nat) : Int)
              rw [show A + (k - A) = k by omega]
              congr 1
              omega
        · have qd' : ¬ (48 ≤ tp A ∧ tp A ≤ 57) := by
            unfold dgB at qd
            rw [decide_eq_true_eq] at qd
            exact qd
          rw [if_pos (by rw [dec_b0]; omega), kd_88 F3, kd_stI, kd_88 F3, k7, kI_add]
          refine ⟨rfl, rfl, rfl, ?_⟩
          have eE : tEn tp n A = A + 1 := by unfold tEn; rw [if_neg (by omega), if_neg qs, if_neg qd]
          have eK : tKd tp n A = sgG (tp A) 12 := by unfold tKd; rw [if_neg (by omega), if_neg qs, if_neg qd]
          rw [eE]
          suffices H : ∀ i, i ≤ 12 → ∀ h4, FTk h h4 → ivA h4 88 6 = kI A → ivA h4 88 7 = kI ((A + 1 : Nat) : Int) → ivA h4 88 9 = kI (sgG (tp A) i : Nat) → Safe 5 m_M_next (254, [.ref 88, .int (kI i)], [], h4) (fun v h' => Eqv v none ∧ FTk h h' ∧ ivA h' 88 6 = kI A ∧ ivA h' 88 7 = kI ((A + 1 : Nat) : Int) ∧ ivA h' 88 9 = kI (tKd tp n A : Nat) ∧ (tKd tp n A = 23 → ivA h' 88 10 = kI (tNm tp n A : Nat))) by
            exact H 0 (by omega) _ (up _ 9 _ (up h3 7 _ e3 (by omega)) (by omega)) (by rw [iv_stI, if_neg (by omega), iv_stI, if_neg (by omega)]; exact k6) (by rw [iv_stI, if_neg (by omega), iv_stI, if_pos ⟨rfl, rfl⟩]; rfl) (by rw [iv_stI, if_pos ⟨rfl, rfl⟩]; rfl)
          have l1 : (strL 1).length = 12 := str_len.2.1
          refine down_ind 12 ?_ ?_
          · intro h4 e4 m6 m7 m9
            obtain ⟨F4, O4, R4⟩ := step h4 e4
            refine s_M_next_254 ?_
            rw [(O4.2 1 (by omega)).1, St_length_c O4 (i := 1) (by omega) (by omega), l1, if_pos (by decide)]
            refine ⟨rfl, rfl, e4, m6, m7, by rw [eK]; exact m9, fun z => ?_⟩
            have := sgG_b (tp A) 12
            omega
          · intro i hi ih h4 e4 m6 m7 m9
            obtain ⟨F4, O4, R4⟩ := step h4 e4
            have sb := strL_b 1 i
            refine s_M_next_254 ?_
            rw [(O4.2 1 (by omega)).1, St_length_c O4 (i := 1) (by omega) (by omega), l1, if_neg (by rw [decide_eq_true_eq, kI_le (by omega) (by omega) (by omega) (by omega)]; omega), kd_88 F4, m6, M_see_c F4 R4 s2 (by omega), if_pos q, (O4.2 1 (by omega)).1, St_charAt_c O4 (i := 1) (by omega) (by omega) (by omega)]
            refine ⟨rfl, rfl, rfl, rfl, ?_⟩
            have es : strS.getD i 0 = (strL 1).getD i 0 := rfl
            by_cases z : tp A = (strL 1).getD i 0
            · rw [if_neg (by rw [z]; simp), kd_88 F4, kI_add, kI_add]
              refine ⟨rfl, ?_⟩
              refine ih _ (up h4 9 _ e4 (by omega)) (by rw [iv_stI, if_neg (by omega)]; exact m6) (by rw [iv_stI, if_neg (by omega)]; exact m7) ?_
              rw [iv_stI, if_pos ⟨rfl, rfl⟩]
              show _ = kI ((if tp A = strS.getD i 0 then 30 + i else sgG (tp A) i : Nat) : Int)
              rw [es, if_pos z]
              rfl
            · rw [if_pos (by rw [Bool.not_eq_true', decide_eq_false_iff_not, kI_inj (by omega) (by omega) (by omega) (by omega)]; omega), kI_add]
              refine ih h4 e4 m6 m7 ?_
              show _ = kI ((if tp A = strS.getD i 0 then 30 + i else sgG (tp A) i : Nat) : Int)
              rw [es, if_neg z]
              exact m9
    · rw [if_neg (by rw [decide_eq_true_eq, kI_lt (by omega) (by omega) (by omega) (by omega)]; omega)]
      have eE : tEn tp n A = A := by unfold tEn; rw [if_pos (by omega)]
      have eK : tKd tp n A = 24 := by unfold tKd; rw [if_pos (by omega)]
      exact ⟨rfl, rfl, up h3 9 _ e3 (by omega), by rw [iv_stI, if_neg (by omega)]; exact k6, by rw [iv_stI, if_neg (by omega), eE]; exact k7, by rw [iv_stI, if_pos ⟨rfl, rfl⟩, eK]; rfl, fun z => by omega⟩
  · intro k hk ih hbk h2 e2 j6
    obtain ⟨F2, O2, R2⟩ := step h2 e2
    obtain ⟨z1, z2⟩ := s3 k hbk hk
    have z2' : bkB (tp k) = true := z2
    unfold bkB at z2'
    rw [decide_eq_true_eq] at z2'
    have s34 : Safe 5 m_M_next (34, [.ref 88, unV], [], h2) (fun v h' => Eqv v none ∧ FTk h h' ∧ ivA h' 88 6 = kI A ∧ ivA h' 88 7 = kI (tEn tp n A : Nat) ∧ ivA h' 88 9 = kI (tKd tp n A : Nat) ∧ (tKd tp n A = 23 → ivA h' 88 10 = kI (tNm tp n A : Nat))) := by
      refine s_M_next_34 ?_
      rw [kd_88 F2, j6, kI_add]
      exact ⟨rfl, rfl, ih (by omega) _ (up h2 6 _ e2 (by omega)) (by rw [iv_stI, if_pos ⟨rfl, rfl⟩]; rfl)⟩
    refine s_M_next_8 ?_
    rw [kd_88 F2, j6, M_see_c F2 R2 (by omega) (by omega), if_pos z1]
    refine ⟨rfl, rfl, ?_⟩
    by_cases z3 : tp k = 10
    · rw [if_pos (by rw [z3]; decide)]
      exact s34
    · rw [if_neg (by rw [decide_eq_true_eq, kI_inj (by omega) (by omega) (by omega) (by omega)]; omega), kd_88 F2, j6, M_see_c F2 R2 (by omega) (by omega), if_pos z1, if_neg (by rw [show tp k = 32 by omega]; decide)]
      exact ⟨rfl, rfl, s34⟩
