/-! the tokens of the class -/
def cdT (k m : Nat) : Nat := if k = 24 then 0 else if k = 25 then 1 else if k = 22 then 2 else if k = 23 then 1000 + m else if k < 8 then 200 + k else if k ≤ 12 then 203 + k else if k = 13 then 209 else if k = 14 then 208 else if k = 15 then 210 else strS.getD (k - 30) 0
def vkB (k : Nat) : Bool := decide (k ≤ 15 ∨ (22 ≤ k ∧ k ≤ 25) ∨ (30 ≤ k ∧ k ≤ 41))
def cdX (tp : Nat → Nat) (n a : Nat) : Nat := cdT (tKd tp n a) (tNm tp n a)
theorem cdT_0 {k : Nat} (h : k ≠ 23) (m : Nat) : cdT k m = cdT k 0 := by
  unfold cdT
  rw [if_neg h, if_neg h]
theorem cdT_inj0 : ∀ k, k < 42 → ∀ j, j < 42 → (!(vkB k && vkB j && !decide (k = 23) && !decide (j = 23) && decide (cdT k 0 = cdT j 0)) || decide (k = j)) = true := by decide +kernel
theorem cdT_inj (k : Nat) (hk : k < 42) (j : Nat) (hj : j < 42) (v : vkB k = true) (w : vkB j = true) (n : k ≠ 23) (m : j ≠ 23) (e : cdT k 0 = cdT j 0) : k = j := by
  have := cdT_inj0 k hk j hj
  simp only [v, w, e, decide_true, Bool.and_true, Bool.true_and, n, m, decide_false, Bool.not_false, Bool.not_true, Bool.false_or, decide_eq_true_eq] at this
  exact this
theorem cdT_lt : ∀ k, k < 42 → k ≠ 23 → cdT k 0 < 216 := by decide +kernel
theorem kyH_b (w : List Nat) : ∀ (l : List (List Nat)) (j : Nat), kyH w l j = 22 ∨ kyH w l j < j + l.length := by
  intro l
  induction l with
  | nil => intro j; exact Or.inl rfl
  | cons x r ih =>
    intro j
    show (if x = w then j else kyH w r (j + 1)) = 22 ∨ (if x = w then j else kyH w r (j + 1)) < j + (r.length + 1)
    have := ih (j + 1)
    split <;> omega
theorem tKd_v (tp : Nat → Nat) (n a : Nat) : vkB (tKd tp n a) = true := by
  unfold vkB
  rw [decide_eq_true_eq]
  unfold tKd
  split
  · omega
  · split
    · have := kyH_b (wdL tp a (tEn tp n a)) keyL 0
      have l16 : keyL.length = 16 := rfl
      unfold keyF
      omega
    · split
      · split <;> omega
      · have := sgG_b (tp a) 12
        omega
theorem cdX_iff {tp : Nat → Nat} {n a k : Nat} (hk : k < 42) (v : vkB k = true) (h : k ≠ 23) : cdX tp n a = cdT k 0 ↔ tKd tp n a = k := by
  have b := tKd_b tp n a
  unfold cdX
  constructor
  · intro e
    by_cases q : tKd tp n a = 23
    · exfalso
      rw [q] at e
      have l := cdT_lt k hk h
      have e2 : cdT 23 (tNm tp n a) = 1000 + tNm tp n a := rfl
      omega
    · rw [cdT_0 q] at e
      exact cdT_inj _ b _ hk (tKd_v tp n a) v q h e
  · intro e
    rw [e]
    exact cdT_0 h _
theorem cdX_23 {tp : Nat → Nat} {n a : Nat} : 1000 ≤ cdX tp n a ↔ tKd tp n a = 23 := by
  have b := tKd_b tp n a
  unfold cdX
  constructor
  · intro e
    by_cases q : tKd tp n a = 23
    · exact q
    · rw [cdT_0 q] at e
      have := cdT_lt _ b q
      omega
  · intro e
    rw [e]
    show 1000 ≤ 1000 + tNm tp n a
    omega
theorem cdX_n {tp : Nat → Nat} {n a : Nat} (e : tKd tp n a = 23) : cdX tp n a = 1000 + tNm tp n a := by
  unfold cdX
  rw [e]
  rfl
theorem cdX_b {tp : Nat → Nat} {n a : Nat} : cdX tp n a < 2000 := by
  by_cases q : tKd tp n a = 23
  · have := tNm_b q
    rw [cdX_n q]
    omega
  · unfold cdX
    rw [cdT_0 q]
    have := cdT_lt _ (tKd_b tp n a) q
    omega
/-! letters, digits -/
theorem sc_b {c : Nat} (h : c < 256) : -128 ≤ sb c ∧ sb c ≤ 127 := by unfold sb; split <;> omega
theorem sc_sm {c : Nat} (h : c < 256) : (97 ≤ sb c ∧ sb c ≤ 122) ↔ smB c = true := by
  unfold sb smB
  rw [decide_eq_true_eq]
  split <;> omega
theorem sc_dg {c : Nat} (h : c < 256) : (48 ≤ sb c ∧ sb c ≤ 57) ↔ dgB c = true := by
  unfold sb dgB
  rw [decide_eq_true_eq]
  split <;> omega
theorem To_isLetter_c {d c : Nat} {h : AH} (hc : c < 256) (hd : 1 ≤ d) {K : Int32 → AH → Prop} : CallI d m_To_isLetter [.int (kI (sb c))] h K ↔ K (bI32 (smB c = true)) h := by
  refine Ret.I (d := 1) (ret_of (s_To_isLetter_0 ?_)) hd
  have b := sc_b hc
  have i := sc_sm hc
  unfold bI32
  by_cases q1 : sb c < 97
  · rw [if_pos (by rw [decide_eq_true_eq, kI_lt (by omega) (by omega) (by omega) (by omega)]; exact q1), if_neg (fun z => by have := i.mpr z; omega)]
    exact ⟨by decide, rfl, rfl⟩
  · rw [if_neg (by rw [decide_eq_true_eq, kI_lt (by omega) (by omega) (by omega) (by omega)]; exact q1)]
    by_cases q2 : 122 < sb c
    · rw [if_pos (by rw [decide_eq_true_eq, kI_lt (by omega) (by omega) (by omega) (by omega)]; exact q2), if_neg (fun z => by have := i.mpr z; omega)]
      exact ⟨by decide, rfl, rfl⟩
    · rw [if_neg (by rw [decide_eq_true_eq, kI_lt (by omega) (by omega) (by omega) (by omega)]; exact q2), if_pos (i.mp (by omega))]
      exact ⟨by decide, rfl, rfl⟩
theorem To_isDigit_c {d c : Nat} {h : AH} (hc : c < 256) (hd : 1 ≤ d) {K : Int32 → AH → Prop} : CallI d m_To_isDigit [.int (kI (sb c))] h K ↔ K (bI32 (dgB c = true)) h := by
  refine Ret.I (d := 1) (ret_of (s_To_isDigit_0 ?_)) hd
  have b := sc_b hc
  have i := sc_dg hc
  unfold bI32
  by_cases q1 : sb c < 48
  · rw [if_pos (by rw [decide_eq_true_eq, kI_lt (by omega) (by omega) (by omega) (by omega)]; exact q1), if_neg (fun z => by have := i.mpr z; omega)]
    exact ⟨by decide, rfl, rfl⟩
  · rw [if_neg (by rw [decide_eq_true_eq, kI_lt (by omega) (by omega) (by omega) (by omega)]; exact q1)]
    by_cases q2 : 57 < sb c
    · rw [if_pos (by rw [decide_eq_true_eq, kI_lt (by omega) (by omega) (by omega) (by omega)]; exact q2), if_neg (fun z => by have := i.mpr z; omega)]
      exact ⟨by decide, rfl, rfl⟩
    · rw [if_neg (by rw [decide_eq_true_eq, kI_lt (by omega) (by omega) (by omega) (by omega)]; exact q2), if_pos (i.mp (by omega))]
      exact ⟨by decide, rfl, rfl⟩
/-! the text as the class reads it -/
def XR (tp : Nat → Nat) (n : Nat) (h : AH) : Prop := (Fix h) ∧ (OX h) ∧ (n ≤ 900) ∧ (∀ k, k < n → ivA h 2 k = kI (sb (tp k))) ∧ (∀ k, k < n → tp k < 256)
theorem XR.F {tp : Nat → Nat} {n : Nat} {h : AH} (C : XR tp n h) : Fix h := C.1
theorem XR.O {tp : Nat → Nat} {n : Nat} {h : AH} (C : XR tp n h) : OX h := C.2.1
theorem XR.le {tp : Nat → Nat} {n : Nat} {h : AH} (C : XR tp n h) : n ≤ 900 := C.2.2.1
theorem XR.v {tp : Nat → Nat} {n : Nat} {h : AH} (C : XR tp n h) : ∀ k, k < n → ivA h 2 k = kI (sb (tp k)) := C.2.2.2.1
theorem XR.b {tp : Nat → Nat} {n : Nat} {h : AH} (C : XR tp n h) : ∀ k, k < n → tp k < 256 := C.2.2.2.2
def tkP (tp : Nat → Nat) (a k : Nat) : Bool := (smB (tp a) && smB (tp k)) || (dgB (tp a) && dgB (tp k))
theorem smdg {c : Nat} (h : smB c = true) : dgB c = false := by
  unfold smB at h
  unfold dgB
  rw [decide_eq_true_eq] at h
  rw [decide_eq_false_iff_not]
  omega
theorem run_congr {p q : Nat → Bool} {n : Nat} (e : ∀ k, p k = q k) (k : Nat) : run p n k = run q n k := by
  have : p = q := funext e
  rw [this]
theorem tEn_run {tp : Nat → Nat} {n a : Nat} (h : a < n) : tEn tp n a = run (tkP tp a) n (a + 1) := by
  unfold tEn
  rw [if_neg (by omega)]
  by_cases q : smB (tp a) = true
  · rw [if_pos q, run_s ⟨h, q⟩]
    exact run_congr (fun k => by unfold tkP; rw [q, smdg q]; simp) _
  · have q' : smB (tp a) = false := by cases z : smB (tp a) <;> simp_all
    rw [if_neg q]
    by_cases q2 : dgB (tp a) = true
    · rw [if_pos q2, run_s ⟨h, q2⟩]
      exact run_congr (fun k => by unfold tkP; rw [q', q2]; simp) _
    · have q2' : dgB (tp a) = false := by cases z : dgB (tp a) <;> simp_all
      rw [if_neg q2, run_e]
      rintro ⟨_, z⟩
      unfold tkP at z
      rw [q', q2'] at z
      simp at z
theorem To_tokenEnd_c {tp : Nat → Nat} {n a d : Nat} {h : AH} (R : XR tp n h) (an : a < n) (hd : 2 ≤ d) {K : Int32 → AH → Prop} : CallI d m_To_tokenEnd [.ref 2, .int (kI a), .int (kI n)] h K ↔ K (kI (tEn tp n a : Nat)) h := by
  have le := R.le
  have F := R.F
  have rd : ∀ k, k < n → (decide (kdA h 2 = 22) || decide (kdA h 2 = 24) || decide (kdA h 2 = 42)) = true ∧ inB (kI (k : Nat)) (lnA h 2) = true ∧ ivA h 2 (ix (kI (k : Nat))) = kI (sb (tp k)) := fun k hk => by
    rw [kd_2 F, ln_2 F, ix_kI (by omega)]
    exact ⟨rfl, inB_kI (by omega) (by omega), R.v k hk⟩
  refine Ret.I (d := 2) (ret_of (s_To_tokenEnd_0 ?_)) hd
  have r := rd a an
  rw [r.2.2, r.2.1, r.1, To_isLetter_c (R.b a an) (by omega), r.2.2, r.2.1, r.1, To_isDigit_c (R.b a an) (by omega)]
  refine ⟨rfl, rfl, rfl, rfl, ?_⟩
  rw [show kI (a : Int) + kI 1 = kI ((a + 1 : Nat) : Int) by rw [kI_add]; rfl]
  have sp := run_spec (p := tkP tp a) (n := n) n (a + 1) (by omega) (by omega)
  rw [tEn_run an]
  obtain ⟨E, hE⟩ : ∃ E, E = run (tkP tp a) n (a + 1) := ⟨_, rfl⟩
  rw [← hE] at sp ⊢
  obtain ⟨s1, s2, s3, s4⟩ := sp
  suffices H : ∀ k, k ≤ E → a + 1 ≤ k → Safe 1 m_To_tokenEnd (20, [.ref 2, unV, .int (kI n), .int (bI32 (smB (tp a) = true)), .int (bI32 (dgB (tp a) = true)), .int (kI k)], [], h) (fun v h' => v = some (.int (kI (E : Nat))) ∧ h' = h) from H (a + 1) s1 (by omega)
  have at40 : ∀ k, k < n → (smB (tp a) = true → smB (tp k) = false) → (dgB (tp a) = true → dgB (tp k) = true → Safe 1 m_To_tokenEnd (20, [.ref 2, unV, .int (kI n), .int (bI32 (smB (tp a) = true)), .int (bI32 (dgB (tp a) = true)), .int (kI (k + 1 : Nat))], [], h) (fun v h' => v = some (.int (kI (E : Nat))) ∧ h' = h)) → (tkP tp a k = false → k = E) → Safe 1 m_To_tokenEnd (40, [.ref 2, unV, .int (kI n), .int (bI32 (smB (tp a) = true)), .int (bI32 (dgB (tp a) = true)), .int (kI k)], [], h) (fun v h' => v = some (.int (kI (E : Nat))) ∧ h' = h) := fun k hk h1 h2 h3 => by
    have r := rd k hk
    refine s_To_tokenEnd_40 ?_
    by_cases q : dgB (tp a) = true
    · rw [if_neg (by rw [dec_b0]; exact fun z => z q), r.2.2, r.2.1, r.1, To_isDigit_c (R.b k hk) (by omega)]
      refine ⟨rfl, rfl, ?_⟩
      by_cases q2 : dgB (tp k) = true
      · rw [if_neg (by rw [dec_b0]; exact fun z => z q2), kI_add]
        exact h2 q q2
      · rw [if_pos (by rw [dec_b0]; exact q2)]
        have : k = E := h3 (by unfold tkP; by_cases w : smB (tp a) = true; · rw [smdg w] at q; cases q
                               · simp [w, q2])
        rw [this]
        exact ⟨rfl, rfl⟩
    · rw [if_pos (by rw [dec_b0]; exact q)]
      have : k = E := h3 (by unfold tkP; by_cases w : smB (tp a) = true; · simp [w, h1 w, q]
                             · simp [w, q])
      rw [this]
      exact ⟨rfl, rfl⟩
  refine down_ind E ?_ ?_
  · intro hE1
    refine s_To_tokenEnd_20 ?_
    by_cases q : n ≤ E
    · rw [if_pos (by rw [decide_eq_true_eq, kI_le (by omega) (by omega) (by omega) (by omega)]; omega)]
      exact ⟨rfl, rfl⟩
    · have z : tkP tp a E = false := by cases w : tkP tp a E; · rfl
                                        · exact absurd ⟨by omega, w⟩ s4
      rw [if_neg (by rw [decide_eq_true_eq, kI_le (by omega) (by omega) (by omega) (by omega)]; omega)]
      have g : Safe 1 m_To_tokenEnd (40, [.ref 2, unV, .int (kI n), .int (bI32 (smB (tp a) = true)), .int (bI32 (dgB (tp a) = true)), .int (kI E)], [], h) (fun v h' => v = some (.int (kI (E : Nat))) ∧ h' = h) := at40 E (by omega) (fun w => by unfold tkP at z; rw [w] at z; simp at z; exact z.1) (fun w w2 => by unfold tkP at z; rw [w, w2] at z; simp at z) (fun _ => rfl)
      by_cases q2 : smB (tp a) = true
      · have r := rd E (by omega)
        rw [if_neg (by rw [dec_b0]; exact fun z => z q2), r.2.2, r.2.1, r.1, To_isLetter_c (R.b E (by omega)) (by omega)]
        refine ⟨rfl, rfl, ?_⟩
        rw [if_neg (by rw [Bool.not_eq_true', decide_eq_false_iff_not, bI_0]; unfold tkP at z; rw [q2] at z; simp at z; simp [z.1])]
        exact g
      · rw [if_pos (by rw [dec_b0]; exact q2)]
        exact g
  · intro k hk ih h1
    obtain ⟨z1, z2⟩ := s3 k h1 hk
    refine s_To_tokenEnd_20 ?_
    rw [if_neg (by rw [decide_eq_true_eq, kI_le (by omega) (by omega) (by omega) (by omega)]; omega)]
    have r := rd k z1
    by_cases q2 : smB (tp a) = true
    · have z3 : smB (tp k) = true := by unfold tkP at z2; rw [q2, smdg q2] at z2; simpa using z2
      rw [if_neg (by rw [dec_b0]; exact fun z => z q2), r.2.2, r.2.1, r.1, To_isLetter_c (R.b k z1) (by omega)]
      refine ⟨rfl, rfl, ?_⟩
      rw [if_pos (by rw [Bool.not_eq_true', decide_eq_false_iff_not, bI_0]; exact fun z => z z3), kI_add]
      exact ih (by omega)
    · rw [if_pos (by rw [dec_b0]; exact q2)]
      exact at40 k z1 (fun w => absurd w q2) (fun _ _ => ih (by omega)) (fun w => by rw [w] at z2; cases z2)
theorem To_numberCode_c {tp : Nat → Nat} {n a e d : Nat} {h : AH} (R : XR tp n h) (ae : a ≤ e) (en : e ≤ n) (dg : ∀ k, a ≤ k → k < e → dgB (tp k) = true) (hd : 1 ≤ d) {K : Int32 → AH → Prop} : CallI d m_To_numberCode [.ref 2, .int (kI a), .int (kI e)] h K ↔ K (kI ((if e - a ≤ 3 then 1000 + nmF tp a (e - a) else 1 : Nat) : Int)) h := by
  have le := R.le
  have F := R.F
  refine Ret.I (d := 1) (ret_of (s_To_numberCode_0 ?_)) hd
  rw [kI_sub]
  by_cases q : e - a ≤ 3
  · rw [if_pos (by rw [decide_eq_true_eq, kI_le (by omega) (by omega) (by omega) (by omega)]; omega), if_pos q]
    suffices H : ∀ k, k ≤ e → a ≤ k → Safe 0 m_To_numberCode (14, [.ref 2, unV, .int (kI e), .int (kI (nmF tp a (k - a) : Nat)), .int (kI k)], [], h) (fun v h' => v = some (.int (kI ((1000 + nmF tp a (e - a) : Nat) : Int))) ∧ h' = h) by
      have := H a ae (by omega)
      rw [Nat.sub_self] at this
      exact this
    refine down_ind e ?_ ?_
    · intro _
      refine s_To_numberCode_14 ?_
      rw [if_pos (by rw [decide_eq_true_eq, kI_le (by omega) (by omega) (by omega) (by omega)]; omega), kI_add]
      exact ⟨rfl, rfl⟩
    · intro k hk ih hak
      have z := dg k hak hk
      unfold dgB at z
      rw [decide_eq_true_eq] at z
      refine s_To_numberCode_14 ?_
      rw [if_neg (by rw [decide_eq_true_eq, kI_le (by omega) (by omega) (by omega) (by omega)]; omega), kd_2 F, ln_2 F, ix_kI (by omega), R.v k (by omega), kI_add, kI_sub, kI_mul, kI_add]
      refine ⟨rfl, inB_kI (by omega) (by omega), ?_⟩
      have ek : k + 1 - a = (k - a) + 1 := by omega
      have := ih (by omega)
      rw [ek] at this
      have e2 : (nmF tp a (k - a) : Int) * 10 + (sb (tp k) - 48) = ((nmF tp a (k - a + 1) : Nat) : Int) := by
        show _ = ((10 * nmF tp a (k - a) + (tp (a + (k - a)) - 48) : Nat) : Int)
        rw [show a + (k - a) = k by omega]
        unfold sb
        rw [if_pos (by omega)]
        omega
      rw [e2]
      exact this
  · rw [if_neg (by rw [decide_eq_true_eq, kI_le (by omega) (by omega) (by omega) (by omega)]; omega), if_neg q]
    exact ⟨rfl, rfl⟩
/-! words -/
def xkL : List (List Nat) := [[115, 104, 101, 101, 116], [114, 111, 119], [104, 97, 110, 100], [104, 97, 98, 105, 116], [100, 114, 97, 119, 110], [108, 97, 115, 116], [109, 97, 121], [111, 100, 100, 115], [111, 114], [97, 110, 100], [110, 111, 116], [99, 101, 108, 108], [107, 105, 110, 100], [110, 101, 97, 114], [108, 101, 102, 116], [102, 97, 114]]
theorem xk_str : ∀ w, w < 16 → (xkL.getD w []).length ≤ 5 ∧ ∀ j, j < 5 → strW.getD (w * 5 + j) 0 = if j < (xkL.getD w []).length then (xkL.getD w []).getD j 0 else 32 := by decide +kernel
theorem xk_sm : ∀ w, w < 16 → ∀ j, j < 5 → j < (xkL.getD w []).length → 97 ≤ (xkL.getD w []).getD j 0 := by decide +kernel
theorem xk_iff {tp : Nat → Nat} {a e w : Nat} (hw : w < 16) (l5 : e - a ≤ 5) (sm : ∀ k, a ≤ k → k < e → smB (tp k) = true) : (∀ j, j < 5 → strW.getD (w * 5 + j) 0 = if a + j < e then tp (a + j) else 32) ↔ xkL.getD w [] = wdL tp a e := by
  obtain ⟨len, st⟩ := xk_str w hw
  have s2 : ∀ k, a ≤ k → k < e → 97 ≤ tp k := fun k h1 h2 => by
    have := sm k h1 h2
    unfold smB at this
    rw [decide_eq_true_eq] at this
    omega
  have x2 := xk_sm w hw
  rw [wd_eq]
  obtain ⟨l, hl⟩ : ∃ l, l = xkL.getD w [] := ⟨_, rfl⟩
  rw [← hl] at len st x2 ⊢
  constructor
  · intro H
    have e1 : e - a = l.length := by
      by_cases q : e - a < l.length
      · have h1 := H (e - a) (by omega)
        have h2 := st (e - a) (by omega)
        have h3 := x2 (e - a) (by omega) q
        rw [if_neg (by omega)] at h1
        rw [if_pos q] at h2
        omega
      · by_cases q2 : l.length < e - a
        · have h1 := H l.length (by omega)
          have h2 := st l.length (by omega)
          have h3 := s2 (a + l.length) (by omega) (by omega)
          rw [if_pos (by omega)] at h1
          rw [if_neg (by omega)] at h2
          omega
        · omega
    refine ⟨e1, fun i hi => ?_⟩
    have h1 := H i (by omega)
    have h2 := st i (by omega)
    rw [if_pos (by omega)] at h1
    rw [if_pos hi] at h2
    omega
  · rintro ⟨e1, e2⟩ j hj
    rw [st j hj]
    by_cases q : j < l.length
    · rw [if_pos q, if_pos (by omega), e2 j q]
    · rw [if_neg q, if_neg (by omega)]
theorem To_isWord_c {tp : Nat → Nat} {n a e w d : Nat} {h : AH} (R : XR tp n h) (hw : w < 16) (ae : a ≤ e) (en : e ≤ n) (l5 : e - a ≤ 5) (sm : ∀ k, a ≤ k → k < e → smB (tp k) = true) (hd : 5 ≤ d) {K : Int32 → AH → Prop} : CallI d m_To_isWord [.int (kI w), .ref 2, .int (kI a), .int (kI e)] h K ↔ K (bI32 (xkL.getD w [] = wdL tp a e)) h := by
  have le := R.le
  have F := R.F
  refine Ret.I (d := 5) (ret_of (s_To_isWord_0 ?_)) hd
  have l80 : (strL 2).length = 80 := str_len.2.2
  have X := xk_iff hw l5 sm
  have at28 : ∀ j c, j < 5 → c < 128 → c = (if a + j < e then tp (a + j) else 32) → (strW.getD (w * 5 + j) 0 = c → Safe 4 m_To_isWord (3, [.int (kI w), .ref 2, .int (kI a), .int (kI e), .int (kI (j + 1 : Nat)), unV], [], h) (fun v h' => v = some (.int (bI32 (xkL.getD w [] = wdL tp a e))) ∧ h' = h)) → Safe 4 m_To_isWord (28, [.int (kI w), .ref 2, .int (kI a), .int (kI e), .int (kI j), unV], [.int (kI c)], h) (fun v h' => v = some (.int (bI32 (xkL.getD w [] = wdL tp a e))) ∧ h' = h) := fun j c hj c1 ec G => by
    refine s_To_isWord_28 ?_
    rw [(R.O.2 2 (by omega)).1, kI_mul, kI_add, show (w : Int) * 5 + (j : Int) = ((w * 5 + j : Nat) : Int) by omega, St_charAt_c R.O (i := 2) (by omega) (by rw [l80]; omega) (by omega)]
    refine ⟨rfl, ?_⟩
    have sbb := strL_b 2 (w * 5 + j)
    have es : strW.getD (w * 5 + j) 0 = (strL 2).getD (w * 5 + j) 0 := rfl
    by_cases q : (strL 2).getD (w * 5 + j) 0 = c
    · rw [if_pos (by rw [decide_eq_true_eq, q]), kI_add]
      exact G (by rw [es]; exact q)
    · rw [if_neg (by rw [decide_eq_true_eq, kI_inj (by omega) (by omega) (by omega) (by omega)]; omega)]
      have no : ¬ xkL.getD w [] = wdL tp a e := fun z => by
        have := X.mpr z j hj
        rw [es, ← ec] at this
        exact q this
      refine ⟨by decide, ?_, rfl⟩
      unfold bI32
      rw [if_neg no]
  suffices H : ∀ j, j ≤ 5 → (∀ i, i < j → strW.getD (w * 5 + i) 0 = if a + i < e then tp (a + i) else 32) → Safe 4 m_To_isWord (3, [.int (kI w), .ref 2, .int (kI a), .int (kI e), .int (kI j), unV], [], h) (fun v h' => v = some (.int (bI32 (xkL.getD w [] = wdL tp a e))) ∧ h' = h) from H 0 (by omega) (fun i hi => by omega)
  refine down_ind 5 ?_ ?_
  · intro A
    refine s_To_isWord_3 ?_
    rw [if_pos (by decide)]
    refine ⟨by decide, ?_, rfl⟩
    unfold bI32
    rw [if_pos (X.mp A)]
  · intro j hj ih A
    refine s_To_isWord_3 ?_
    rw [if_neg (by rw [decide_eq_true_eq, kI_le (by omega) (by omega) (by omega) (by omega)]; omega), kI_add]
    have nx : ∀ c, c = (if a + j < e then tp (a + j) else 32) → strW.getD (w * 5 + j) 0 = c → ∀ i, i < j + 1 → strW.getD (w * 5 + i) 0 = if a + i < e then tp (a + i) else 32 := fun c ec ew i hi => by
      by_cases z : i = j
      · rw [z, ew, ec]
      · exact A i (by omega)
    by_cases q : e ≤ a + j
    · rw [if_pos (by rw [decide_eq_true_eq, kI_le (by omega) (by omega) (by omega) (by omega)]; omega)]
      exact at28 j 32 hj (by omega) (by rw [if_neg (by omega)]) (fun ew => ih (nx 32 (by rw [if_neg (by omega)]) ew))
    · rw [if_neg (by rw [decide_eq_true_eq, kI_le (by omega) (by omega) (by omega) (by omega)]; omega), kd_2 F, ln_2 F, show (a : Int) + (j : Int) = ((a + j : Nat) : Int) by omega, ix_kI (by omega), R.v (a + j) (by omega)]
      refine ⟨rfl, inB_kI (by omega) (by omega), ?_⟩
      have z := sm (a + j) (by omega) (by omega)
      unfold smB at z
      rw [decide_eq_true_eq] at z
      have es : sb (tp (a + j)) = ((tp (a + j) : Nat) : Int) := by unfold sb; rw [if_pos (by omega)]
      rw [es]
      exact at28 j _ hj (by omega) (by rw [if_pos (by omega)]) (fun ew => ih (nx _ (by rw [if_pos (by omega)]) ew))
theorem kyH_no {v : List Nat} : ∀ (l : List (List Nat)) (j : Nat), v ∉ l → kyH v l j = 22
  | [], _, _ => rfl
  | x :: r, j, h => by
    show (if x = v then j else kyH v r (j + 1)) = 22
    rw [if_neg (fun z => h (by rw [z]; exact List.mem_cons_self)), kyH_no r (j + 1) (fun z => h (List.mem_cons_of_mem _ z))]
def wcX (i : Nat) : Nat := if i = 22 then 2 else 200 + i
theorem ky_mem : ∀ v ∈ keyL, cdT (kyH v keyL 0) 0 = wcX (kyH v xkL 0) ∧ v.length ≤ 5 := by decide +kernel
theorem xk_mem : ∀ v ∈ xkL, v ∈ keyL := by decide +kernel
theorem ky_xk (v : List Nat) : cdT (kyH v keyL 0) 0 = wcX (kyH v xkL 0) := by
  by_cases q : v ∈ keyL
  · exact (ky_mem v q).1
  · rw [kyH_no keyL 0 q, kyH_no xkL 0 (fun z => q (xk_mem v z))]
    rfl
theorem ky_long {v : List Nat} (h : 5 < v.length) : cdT (kyH v keyL 0) 0 = 2 := by
  rw [kyH_no keyL 0 (fun z => by have := (ky_mem v z).2; omega)]
  rfl
theorem To_wordCode_c {tp : Nat → Nat} {n a e d : Nat} {h : AH} (R : XR tp n h) (ae : a ≤ e) (en : e ≤ n) (sm : ∀ k, a ≤ k → k < e → smB (tp k) = true) (hd : 6 ≤ d) {K : Int32 → AH → Prop} : CallI d m_To_wordCode [.ref 2, .int (kI a), .int (kI e)] h K ↔ K (kI (cdT (keyF tp a e) 0 : Nat)) h := by
  have le := R.le
  refine Ret.I (d := 6) (ret_of (s_To_wordCode_0 ?_)) hd
  have wl : (wdL tp a e).length = e - a := by unfold wdL; simp
  rw [kI_sub]
  unfold keyF
  by_cases q : e - a ≤ 5
  · rw [if_pos (by rw [decide_eq_true_eq, kI_le (by omega) (by omega) (by omega) (by omega)]; omega), ky_xk]
    suffices H : ∀ w : Nat, w ≤ 16 → Safe 5 m_To_wordCode (11, [.ref 2, .int (kI a), .int (kI e), .int (kI w)], [], h) (fun v h' => v = some (.int (kI (wcX (kyH (wdL tp a e) (xkL.drop w) w) : Nat))) ∧ h' = h) from H 0 (by omega)
    refine down_ind 16 ?_ ?_
    · refine s_To_wordCode_11 ?_
      rw [if_pos (by decide)]
      exact ⟨rfl, rfl⟩
    · intro w hw ih
      refine s_To_wordCode_11 ?_
      rw [if_neg (by rw [decide_eq_true_eq, kI_le (by omega) (by omega) (by omega) (by omega)]; omega), To_isWord_c R hw ae en q sm (by omega)]
      have l16 : xkL.length = 16 := rfl
      have ed : xkL.drop w = xkL.getD w [] :: xkL.drop (w + 1) := by
        rw [List.drop_eq_getElem_cons (by omega), List.getD_eq_getElem?_getD, List.getElem?_eq_getElem (by omega)]
        rfl
      have ek : kyH (wdL tp a e) (xkL.drop w) w = if xkL.getD w [] = wdL tp a e then w else kyH (wdL tp a e) (xkL.drop (w + 1)) (w + 1) := by
        rw [ed]
        rfl
      rw [ek]
      by_cases z : xkL.getD w [] = wdL tp a e
      · rw [if_neg (by rw [dec_b0]; exact fun y => y z), if_pos z, kI_add]
        refine ⟨?_, rfl⟩
        unfold wcX
        rw [if_neg (by omega)]
        rfl
      · rw [if_pos (by rw [dec_b0]; exact z), if_neg z, kI_add]
        exact ih
  · rw [if_neg (by rw [decide_eq_true_eq, kI_le (by omega) (by omega) (by omega) (by omega)]; omega), ky_long (by omega)]
    exact ⟨rfl, rfl⟩
/-! signs -/
def ixH (c : Nat) : List Nat → Nat → Int
  | [], _ => -1
  | x :: r, j => if x = c then (j : Int) else ixH c r (j + 1)
theorem ix_sg : ∀ c, c < 128 → (ixH c strS 0 < 0 ↔ sgG c 12 = 25) ∧ (sgG c 12 ≠ 25 → cdT (sgG c 12) 0 = c) ∧ -1 ≤ ixH c strS 0 ∧ ixH c strS 0 < 12 := by decide +kernel
theorem sg_hi {c : Nat} (h : 128 ≤ c) : ∀ i, sgG c i = 25
  | 0 => rfl
  | i + 1 => by
    have : strS.getD i 0 < 128 := strL_b 1 i
    show (if c = strS.getD i 0 then 30 + i else sgG c i) = 25
    rw [if_neg (by omega), sg_hi h i]
theorem byt_c : ∀ c : Nat, c < 128 → (kI (c : Int)).toInt8.toInt32 = kI (c : Int) ∧ ((kI (c : Int)).toUInt32 % 65536).toInt32 = kI (c : Int) := by decide +kernel
theorem St_indexOf_c {h : AH} (O : OX h) {c d : Nat} (hc : c < 128) (hd : 4 ≤ d) {K : Int32 → AH → Prop} : CallI d m_St_indexOf [.ref 1000002, .int (kI c)] h K ↔ K (kI (ixH c strS 0)) h := by
  have o := O.2 1 (by omega)
  have l12 : (strL 1).length = 12 := str_len.2.1
  rw [l12] at o
  have r1 : Ret 1 m_S1_indexOfChar [.ref 1000006, .int (kI c), .int (kI 0), .int (kI 12)] h (some (.int (kI (ixH c strS 0)))) h := by
    refine ret_of (s_S1_indexOfChar_0 ?_)
    rw [(byt_c c hc).1]
    suffices H : ∀ j : Nat, j ≤ 12 → Safe 0 m_S1_indexOfChar (7, [.ref 1000006, unV, unV, .int (kI 12), .int (kI c), .int (kI j)], [], h) (fun v h' => v = some (.int (kI (ixH c (strS.drop j) j))) ∧ h' = h) from H 0 (by omega)
    refine down_ind 12 ?_ ?_
    · refine s_S1_indexOfChar_7 ?_
      rw [if_pos (by decide)]
      exact ⟨rfl, rfl⟩
    · intro j hj ih
      refine s_S1_indexOfChar_7 ?_
      have sb1 := strL_b 1 j
      rw [if_neg (by rw [decide_eq_true_eq, kI_le (by omega) (by omega) (by omega) (by omega)]; omega), o.2.2.2.1, o.2.2.2.2.1, ix_kI (by omega), o.2.2.2.2.2 j hj]
      refine ⟨rfl, inB_kI (by omega) (by omega), ?_⟩
      have l12' : strS.length = 12 := rfl
      have ed : strS.drop j = (strL 1).getD j 0 :: strS.drop (j + 1) := by
        rw [List.drop_eq_getElem_cons (by omega), List.getD_eq_getElem?_getD]
        show _ = (strS[j]?).getD 0 :: _
        rw [List.getElem?_eq_getElem (by omega)]
        rfl
      have ek : ixH c (strS.drop j) j = if (strL 1).getD j 0 = c then (j : Int) else ixH c (strS.drop (j + 1)) (j + 1) := by
        rw [ed]
        rfl
      rw [ek]
      by_cases z : (strL 1).getD j 0 = c
      · rw [if_neg (by rw [z]; simp), if_pos z]
        exact ⟨rfl, rfl⟩
      · rw [if_pos (by rw [Bool.not_eq_true', decide_eq_false_iff_not, kI_inj (by omega) (by omega) (by omega) (by omega)]; omega), if_neg z, kI_add]
        exact ih
  have r2 : Ret 2 m_S1_indexOf [.ref 1000006, .int (kI c), .int (kI 0), .int (kI 12)] h (some (.int (kI (ixH c strS 0)))) h := by
    refine ret_of (s_S1_indexOf_0 ?_)
    have r0 : Ret 1 m_S1_canEncode [.int (kI c)] h (some (.int (kI 1))) h := by
      refine ret_of (s_S1_canEncode_0 ?_)
      rw [z0, if_neg (by rw [decide_eq_true_eq, kI_lt (by omega) (by omega) (by omega) (by omega)]; omega), if_neg (by rw [decide_eq_true_eq, kI_lt (by omega) (by omega) (by omega) (by omega)]; omega)]
      exact ⟨rfl, rfl, rfl⟩
    rw [Ret.I r0 (by omega), if_pos (by decide), o.2.2.2.1, o.2.2.2.2.1]
    refine ⟨rfl, ?_⟩
    have c1 : (if kI 0 < kI 0 then kI 0 else kI 0) = kI 0 := by split <;> rfl
    have c2 : (if kI ((12 : Nat) : Int) < kI 12 then kI ((12 : Nat) : Int) else kI 12) = kI 12 := by split <;> rfl
    rw [c1, c2, if_pos (by decide), Ret.I r1 (by omega)]
    exact ⟨rfl, rfl⟩
  have r3 : Ret 3 m_St_indexOf2 [.ref 1000002, .int (kI c), .int (kI 0)] h (some (.int (kI (ixH c strS 0)))) h := by
    refine ret_of (s_St_indexOf2_0 ?_)
    rw [o.1, St_isLatin1_c O (i := 1) (by omega) (by omega), if_neg (by decide), o.1, St_length_c O (i := 1) (by omega) (by omega), l12, o.2.1]
    refine ⟨rfl, rfl, rfl, ?_⟩
    rw [show ((12 : Nat) : Int) = 12 from rfl, show 1000005 + 1 = 1000006 from rfl, Ret.I r2 (by omega)]
    exact ⟨rfl, rfl⟩
  refine Ret.I (d := 4) (ret_of (s_St_indexOf_0 ?_)) hd
  rw [o.1, Ret.I r3 (by omega)]
  exact ⟨rfl, rfl, rfl⟩
theorem To_codeOf_c {tp : Nat → Nat} {n a d : Nat} {h : AH} (R : XR tp n h) (an : a < n) (hd : 7 ≤ d) {K : Int32 → AH → Prop} : CallI d m_To_codeOf [.ref 2, .int (kI a), .int (kI (tEn tp n a : Nat))] h K ↔ K (kI (cdX tp n a : Nat)) h := by
  have le := R.le
  have F := R.F
  have tb := tEn_b (tp := tp) an
  have ab := R.b a an
  refine Ret.I (d := 7) (ret_of (s_To_codeOf_0 ?_)) hd
  rw [kd_2 F, ln_2 F, ix_kI (by omega), R.v a an, To_isLetter_c ab (by omega)]
  refine ⟨rfl, inB_kI (by omega) (by omega), ?_⟩
  by_cases q : smB (tp a) = true
  · have sp := run_spec (p := fun k => smB (tp k)) (n := n) n a (by omega) (by omega)
    have eE : tEn tp n a = run (fun k => smB (tp k)) n a := by unfold tEn; rw [if_neg (by omega), if_pos q]
    rw [← eE] at sp
    rw [if_neg (by rw [dec_b0]; exact fun z => z q), To_wordCode_c R (by omega) tb.2 (fun k h1 h2 => (sp.2.2.1 k h1 h2).2) (by omega)]
    have eK : tKd tp n a = keyF tp a (tEn tp n a) := by unfold tKd; rw [if_neg (by omega), if_pos q]
    have k23 : keyF tp a (tEn tp n a) ≠ 23 := by
      have := kyH_b (wdL tp a (tEn tp n a)) keyL 0
      have l16 : keyL.length = 16 := rfl
      unfold keyF
      omega
    unfold cdX
    rw [eK, cdT_0 k23 (tNm tp n a)]
    exact ⟨rfl, rfl⟩
  · rw [if_pos (by rw [dec_b0]; exact q), To_isDigit_c ab (by omega)]
    by_cases q2 : dgB (tp a) = true
    · have sp := run_spec (p := fun k => dgB (tp k)) (n := n) n a (by omega) (by omega)
      have eE : tEn tp n a = run (fun k => dgB (tp k)) n a := by unfold tEn; rw [if_neg (by omega), if_neg q, if_pos q2]
      rw [← eE] at sp
      rw [if_neg (by rw [dec_b0]; exact fun z => z q2), To_numberCode_c R (by omega) tb.2 (fun k h1 h2 => (sp.2.2.1 k h1 h2).2) (by omega)]
      have eK : tKd tp n a = if tEn tp n a - a ≤ 3 then 23 else 25 := by unfold tKd; rw [if_neg (by omega), if_neg q, if_pos q2]
      unfold cdX
      rw [eK]
      by_cases q3 : tEn tp n a - a ≤ 3
      · rw [if_pos q3, if_pos q3]
        exact ⟨rfl, rfl⟩
      · rw [if_neg q3, if_neg q3]
        exact ⟨rfl, rfl⟩
    · rw [if_pos (by rw [dec_b0]; exact q2)]
      have eK : tKd tp n a = sgG (tp a) 12 := by unfold tKd; rw [if_neg (by omega), if_neg q, if_neg q2]
      have s23 : sgG (tp a) 12 ≠ 23 := by have := sgG_b (tp a) 12; omega
      unfold cdX
      rw [eK, cdT_0 s23 (tNm tp n a)]
      by_cases q3 : 128 ≤ tp a
      · rw [if_pos (by rw [decide_eq_true_eq, z0, kI_le (by have := sc_b ab; omega) (by have := sc_b ab; omega) (by omega) (by omega)]; unfold sb; rw [if_neg (by omega)]; omega), sg_hi q3]
        exact ⟨rfl, rfl⟩
      · have es : sb (tp a) = ((tp a : Nat) : Int) := by unfold sb; rw [if_pos (by omega)]
        have I := ix_sg (tp a) (by omega)
        rw [es]
        by_cases q4 : tp a = 0
        · rw [if_pos (by rw [q4]; decide), q4]
          exact ⟨rfl, rfl⟩
        · rw [if_neg (by rw [decide_eq_true_eq, z0, kI_le (by omega) (by omega) (by omega) (by omega)]; omega), (R.O.2 1 (by omega)).1, (byt_c (tp a) (by omega)).2, St_indexOf_c R.O (by omega) (by omega)]
          refine ⟨rfl, ?_⟩
          by_cases q5 : sgG (tp a) 12 = 25
          · rw [if_pos (by rw [decide_eq_true_eq, z0, kI_lt (by omega) (by omega) (by omega) (by omega)]; exact I.1.mpr q5), q5]
            exact ⟨rfl, rfl⟩
          · rw [if_neg (by rw [decide_eq_true_eq, z0, kI_lt (by omega) (by omega) (by omega) (by omega)]; exact fun z => q5 (I.1.mp z)), I.2.1 q5]
            exact ⟨rfl, rfl⟩
