/-! the reference reckons a law -/
theorem cmp_le (x y : Int64) : (lg_cmp x y ≤ 0) ↔ x ≤ y := by
  rw [← Int32.not_lt, ← Int64.not_lt, cmp_gt]
theorem cmp_ge (x y : Int64) : (0 ≤ lg_cmp x y) ↔ y ≤ x := by
  rw [← Int32.not_lt, ← Int64.not_lt, cmp_lt]
theorem M_isIn_c {d : Nat} (hd : 1 ≤ d) {h : AH} {m k : Nat} (hm : m < 2147483648) (hk : k < 32) {K : Int32 → AH → Prop} : CallI d m_M_isIn [.long (kJ m), .int (kI k)] h K ↔ K (bI32 (m.testBit k = true)) h := by
  refine Ret.I (d := 1) (ret_of (s_M_isIn_0 ?_)) hd
  rw [kJ_bit (by omega) (by omega)]
  simp only [cmp_eq, isB_0, isB_1, true_and, Bool.not_eq_true', decide_eq_false_iff_not]
  unfold bI32
  by_cases q : m.testBit k = true
  · rw [if_pos q, if_pos q, if_neg (by simp)]
    simp
  · rw [if_neg q, if_neg q, if_pos (by decide)]
    simp
theorem dist_lt {a b n : Nat} (ha : a < n) (hb : b < n) : dist a b < n := by
  unfold dist
  omega
theorem farF_lt {s : ST} (w : WFS s) {c l : Nat} (hc : c < 100) (hl : l ≤ 12) : farF s c l < 200 := by
  unfold farF
  have h1 : dist (c / sW s) (l / sW s) < 100 := dist_lt (Nat.lt_of_le_of_lt (Nat.div_le_self _ _) hc) (Nat.lt_of_le_of_lt (Nat.div_le_self _ _) (by omega))
  have h2 : dist (c % sW s) (l % sW s) < 100 := dist_lt (Nat.lt_of_le_of_lt (Nat.mod_le _ _) hc) (Nat.lt_of_le_of_lt (Nat.mod_le _ _) (by omega))
  split <;> omega
theorem M_nearOf_c {s : ST} {y : DY} {d : Nat} {h : AH} (C : MC s y h) (hd : 3 ≤ d) {c m : Nat} (hc : c < 100) (hm : m < 4096) {K : Int32 → AH → Prop} : CallI d m_M_nearOf [.ref 88, .int (kI c), .int (kI m)] h K ↔ K (kI (nearF s c m)) h := by
  refine Ret.I (d := 3) (ret_of (s_M_nearOf_0 ?_)) hd
  have F := C.fix
  have n1 := C.wf.n1
  have n2 := C.wf.n12
  have fl : ∀ a b, farF s a b < 2147483647 ∨ True := fun _ _ => Or.inr trivial
  refine down_ind (P := fun k => Safe 2 m_M_nearOf (5, [.ref 88, .int (kI c), .int (kI m), .int (kI (cnt (fun k => m.testBit k && farF s c k == 1) k : Nat)), .int (kI k)], [], h) _) (sN s) ?_ ?_ 0 (by omega)
  · refine s_M_nearOf_5 ?_
    simp (disch := omega) only [kd_88 F, decide_true, true_and, M_cells_c C, decide_eq_true_eq, kI_le]
    rw [if_pos (by omega)]
    (all_goals first | exact ⟨rfl, rfl⟩ | exact ⟨rfl, trivial⟩ | rfl | trivial)
  · intro k hk ih
    refine s_M_nearOf_5 ?_
    have hfar : farF s c k < 1000 := by
      have := farF_lt C.wf hc (show k ≤ 12 by omega)
      omega
    simp (disch := omega) only [kd_88 F, decide_true, true_and, M_cells_c C, decide_eq_true_eq, kI_le, kI_long, M_isIn_c, z0, bI_k0, M_farOf_c C, Bool.not_eq_true', decide_eq_false_iff_not, kI_inj]
    rw [if_neg (by omega)]
    have e : cnt (fun k => m.testBit k && farF s c k == 1) (k + 1) = cnt (fun k => m.testBit k && farF s c k == 1) k + (if (m.testBit k && farF s c k == 1) = true then 1 else 0) := rfl
    rw [e] at ih
    by_cases q : m.testBit k = true
    · rw [if_neg (fun w => w q)]
      by_cases q2 : farF s c k = 1
      · rw [if_neg (by omega)]
        refine s_M_nearOf_41 ?_
        rw [if_pos (by rw [q, q2]; rfl)] at ih
        simp only [kI_add]
        exact ih
      · rw [if_pos (by omega)]
        refine s_M_nearOf_40 (s_M_nearOf_41 ?_)
        rw [if_neg (by rw [q, Bool.true_and, beq_iff_eq]; exact q2)] at ih
        simp only [kI_add]
        exact ih
    · rw [if_pos q]
      refine s_M_nearOf_40 (s_M_nearOf_41 ?_)
      rw [if_neg (by rw [Bool.and_eq_true]; exact fun w => q w.1)] at ih
      simp only [kI_add]
      exact ih
/-- values that wait, the newest first; their kinds -/
def Stk (h : AH) (a : Nat) : List Int → Prop
  | [] => True
  | v :: r => ivA h a r.length = kI v ∧ Stk h a r
def Tyd : List Bool → List Int → Prop
  | [], [] => True
  | b :: t, v :: r => (b = true → v = 0 ∨ v = 1) ∧ -1000000 ≤ v ∧ v ≤ 1000000 ∧ Tyd t r
  | _, _ => False
theorem Stk_ext {h h' : AH} {a : Nat} : ∀ {st : List Int}, (∀ k, k < st.length → ivA h' a k = ivA h a k) → Stk h a st → Stk h' a st
  | [], _, _ => trivial
  | v :: r, e, H => ⟨(e r.length (by simp)).trans H.1, Stk_ext (fun k hk => e k (by simp; omega)) H.2⟩
theorem Stk_push {h : AH} {a : Nat} {st : List Int} (H : Stk h a st) (v : Int) : Stk (stI h a st.length (kI v)) a (v :: st) := by
  refine ⟨?_, Stk_ext (fun k hk => ?_) H⟩
  · rw [iv_stI, if_pos ⟨rfl, rfl⟩]
  · rw [iv_stI, if_neg (by omega)]
theorem Tyd_len : ∀ {t : List Bool} {st : List Int}, Tyd t st → t.length = st.length
  | [], [], _ => rfl
  | _ :: t, _ :: r, H => by simp [Tyd_len H.2.2.2]
  | [], _ :: _, H => H.elim
  | _ :: _, [], H => H.elim
theorem btw_num {c : Nat} {a b : Int} (hc : c = 3000 ∨ c = 3001 ∨ c = 3002) : btw c a b = clampM (if c = 3000 then a + b else if c = 3001 then a - b else a * b) := by
  unfold btw
  rw [if_neg (by omega), if_neg (by omega), if_neg (by omega), if_neg (by omega), if_neg (by omega)]
theorem clampM_b (v : Int) : -1000000 ≤ clampM v ∧ clampM v ≤ 1000000 := by
  unfold clampM
  split
  · omega
  · split <;> omega
theorem btw_truth {c : Nat} {a b : Int} (hc : c = 3003 ∨ c = 3004 ∨ c = 3005 ∨ c = 3007 ∨ c = 3008) : btw c a b = 0 ∨ btw c a b = 1 := by
  unfold btw
  rcases hc with rfl | rfl | rfl | rfl | rfl <;> simp <;> omega
theorem Tyd_step {w : Nat → Int} (hw : ∀ k, k < 8 → -1000000 ≤ w k ∧ w k ≤ 1000000) {c : Nat} {t t' : List Bool} {st : List Int} (e : ty1 c t = some t') (H : Tyd t st) : Tyd t' (lstp w c st) := by
  unfold ty1 at e
  unfold lstp
  by_cases h1 : c < 1008
  · rw [if_pos h1] at e
    by_cases hl : t.length < 64
    · rw [if_pos hl] at e
      cases e
      by_cases h2 : c < 1000
      · rw [if_pos h2]
        exact ⟨fun q => (by cases q), by omega, by omega, H⟩
      · rw [if_neg h2, if_pos (by omega)]
        have := hw (c - 1000) (by omega)
        exact ⟨fun q => (by cases q), this.1, this.2, H⟩
    · rw [if_neg hl] at e
      cases e
  · rw [if_neg h1] at e
    by_cases h3 : c = 3006
    · rw [if_pos h3] at e
      rw [if_neg (by omega), if_neg (by omega), if_pos h3]
      match t, st, e, H with
      | true :: r, v :: q, e, H =>
        cases e
        refine ⟨fun _ => ?_, ?_, ?_, H.2.2.2⟩
        · have := H.1 rfl
          omega
        · have := H.1 rfl
          omega
        · have := H.1 rfl
          omega
      | true :: r, [], e, H => exact H.elim
      | false :: r, _, e, H => cases e
      | [], _, e, H => cases e
    · rw [if_neg h3] at e
      by_cases h4 : c = 3000 ∨ c = 3001 ∨ c = 3002
      · rw [if_pos h4] at e
        rw [if_neg (by omega), if_neg (by omega), if_neg h3]
        match t, st, e, H with
        | false :: false :: r, v :: u :: q, e, H =>
          cases e
          have := clampM_b (if c = 3000 then u + v else if c = 3001 then u - v else u * v)
          refine ⟨fun q => (by cases q), ?_, ?_, H.2.2.2.2.2.2⟩
          · show _ ≤ btw c u v
            rw [btw_num h4]; omega
          · show btw c u v ≤ _
            rw [btw_num h4]; omega
        | false :: false :: r, [_], e, H => exact H.2.2.2.elim
        | false :: false :: r, [], e, H => exact H.elim
        | false :: true :: r, _, e, H => cases e
        | true :: r, _, e, H => cases e
        | [false], _, e, H => cases e
        | [], _, e, H => cases e
      · rw [if_neg h4] at e
        by_cases h5 : c = 3003 ∨ c = 3004 ∨ c = 3005
        · rw [if_pos h5] at e
          rw [if_neg (by omega), if_neg (by omega), if_neg h3]
          match t, st, e, H with
          | false :: false :: r, v :: u :: q, e, H =>
            cases e
            have := btw_truth (c := c) (a := u) (b := v) (by omega)
            refine ⟨fun _ => this, ?_, ?_, H.2.2.2.2.2.2⟩
            · show _ ≤ btw c u v
              omega
            · show btw c u v ≤ _
              omega
          | false :: false :: r, [_], e, H => exact H.2.2.2.elim
          | false :: false :: r, [], e, H => exact H.elim
          | false :: true :: r, _, e, H => cases e
          | true :: r, _, e, H => cases e
          | [false], _, e, H => cases e
          | [], _, e, H => cases e
        · rw [if_neg h5] at e
          by_cases h6 : c = 3007 ∨ c = 3008
          · rw [if_pos h6] at e
            rw [if_neg (by omega), if_neg (by omega), if_neg h3]
            match t, st, e, H with
            | true :: true :: r, v :: u :: q, e, H =>
              cases e
              have := btw_truth (c := c) (a := u) (b := v) (by omega)
              refine ⟨fun _ => this, ?_, ?_, H.2.2.2.2.2.2⟩
              · show _ ≤ btw c u v
                omega
              · show btw c u v ≤ _
                omega
            | true :: true :: r, [_], e, H => exact H.2.2.2.elim
            | true :: true :: r, [], e, H => exact H.elim
            | true :: false :: r, _, e, H => cases e
            | false :: r, _, e, H => cases e
            | [true], _, e, H => cases e
            | [], _, e, H => cases e
          · rw [if_neg h6] at e
            cases e
/-- what a binary code finds: two values, of the kinds it wants -/
theorem Tyd_two {c : Nat} {t t' : List Bool} {st : List Int} (e : ty1 c t = some t') (H : Tyd t st) (h1 : ¬ c < 1008) (h2 : c ≠ 3006) : ∃ v u q, st = v :: u :: q ∧ -1000000 ≤ v ∧ v ≤ 1000000 ∧ -1000000 ≤ u ∧ u ≤ 1000000 ∧ ((c = 3007 ∨ c = 3008) → (v = 0 ∨ v = 1) ∧ (u = 0 ∨ u = 1)) ∧ 3000 ≤ c ∧ c ≤ 3008 := by
  unfold ty1 at e
  rw [if_neg h1, if_neg h2] at e
  have key : ∀ b1 b2 r v u q, Tyd (b1 :: b2 :: r) (v :: u :: q) → (b1 = true → v = 0 ∨ v = 1) ∧ (b2 = true → u = 0 ∨ u = 1) ∧ -1000000 ≤ v ∧ v ≤ 1000000 ∧ -1000000 ≤ u ∧ u ≤ 1000000 := fun b1 b2 r v u q H => ⟨H.1, H.2.2.2.1, H.2.1, H.2.2.1, H.2.2.2.2.1, H.2.2.2.2.2.1⟩
  by_cases h4 : c = 3000 ∨ c = 3001 ∨ c = 3002
  · rw [if_pos h4] at e
    match t, st, e, H with
    | false :: false :: r, v :: u :: q, e, H =>
      have k := key _ _ _ _ _ _ H
      exact ⟨v, u, q, rfl, by omega, by omega, by omega, by omega, by omega, by omega, by omega⟩
    | false :: false :: r, [_], e, H => exact H.2.2.2.elim
    | false :: false :: r, [], e, H => exact H.elim
    | false :: true :: r, _, e, H => cases e
    | true :: r, _, e, H => cases e
    | [false], _, e, H => cases e
    | [], _, e, H => cases e
  · rw [if_neg h4] at e
    by_cases h5 : c = 3003 ∨ c = 3004 ∨ c = 3005
    · rw [if_pos h5] at e
      match t, st, e, H with
      | false :: false :: r, v :: u :: q, e, H =>
        have k := key _ _ _ _ _ _ H
        exact ⟨v, u, q, rfl, by omega, by omega, by omega, by omega, by omega, by omega, by omega⟩
      | false :: false :: r, [_], e, H => exact H.2.2.2.elim
      | false :: false :: r, [], e, H => exact H.elim
      | false :: true :: r, _, e, H => cases e
      | true :: r, _, e, H => cases e
      | [false], _, e, H => cases e
      | [], _, e, H => cases e
    · rw [if_neg h5] at e
      by_cases h6 : c = 3007 ∨ c = 3008
      · rw [if_pos h6] at e
        match t, st, e, H with
        | true :: true :: r, v :: u :: q, e, H =>
          have k := key _ _ _ _ _ _ H
          exact ⟨v, u, q, rfl, by omega, by omega, by omega, by omega, fun _ => ⟨k.1 rfl, k.2.1 rfl⟩, by omega, by omega⟩
        | true :: true :: r, [_], e, H => exact H.2.2.2.elim
        | true :: true :: r, [], e, H => exact H.elim
        | true :: false :: r, _, e, H => cases e
        | false :: r, _, e, H => cases e
        | [true], _, e, H => cases e
        | [], _, e, H => cases e
      · rw [if_neg h6] at e
        cases e
theorem Tyd_one {t t' : List Bool} {st : List Int} (e : ty1 3006 t = some t') (H : Tyd t st) : ∃ v q, st = v :: q ∧ (v = 0 ∨ v = 1) := by
  unfold ty1 at e
  rw [if_neg (by omega), if_pos rfl] at e
  match t, st, e, H with
  | true :: r, v :: q, e, H => exact ⟨v, q, rfl, H.1 rfl⟩
  | true :: r, [], e, H => exact H.elim
  | false :: r, _, e, H => cases e
  | [], _, e, H => cases e
theorem ty_push {c : Nat} {t t' : List Bool} (e : ty1 c t = some t') (h : c < 1008) : t.length < 64 ∧ t' = false :: t := by
  unfold ty1 at e
  rw [if_pos h] at e
  by_cases hl : t.length < 64
  · rw [if_pos hl] at e
    cases e
    exact ⟨hl, rfl⟩
  · rw [if_neg hl] at e
    cases e
theorem ty_kind {c : Nat} {t t' : List Bool} (e : ty1 c t = some t') : c < 1008 ∨ (3000 ≤ c ∧ c ≤ 3008) := by
  unfold ty1 at e
  by_cases h1 : c < 1008
  · exact Or.inl h1
  · rw [if_neg h1] at e
    by_cases h2 : 3000 ≤ c ∧ c ≤ 3008
    · exact Or.inr h2
    · rw [if_neg (by omega), if_neg (by omega), if_neg (by omega), if_neg (by omega)] at e
      cases e
theorem and01 {a b : Int} (ha : a = 0 ∨ a = 1) (hb : b = 0 ∨ b = 1) : kI a &&& kI b = kI (if a = 1 ∧ b = 1 then 1 else 0) := by
  rcases ha with rfl | rfl <;> rcases hb with rfl | rfl <;> decide
theorem or01 {a b : Int} (ha : a = 0 ∨ a = 1) (hb : b = 0 ∨ b = 1) : kI a ||| kI b = kI (if a = 1 ∨ b = 1 then 1 else 0) := by
  rcases ha with rfl | rfl <;> rcases hb with rfl | rfl <;> decide
theorem mul_b {a b : Int} (h1 : -1000000 ≤ a) (h2 : a ≤ 1000000) (h3 : -1000000 ≤ b) (h4 : b ≤ 1000000) : -1000000000000 ≤ a * b ∧ a * b ≤ 1000000000000 := by
  have h5 : (a * b).natAbs = a.natAbs * b.natAbs := Int.natAbs_mul a b
  have h6 : a.natAbs * b.natAbs ≤ 1000000 * 1000000 := Nat.mul_le_mul (by omega) (by omega)
  omega
theorem M_between_c {d : Nat} (hd : 1 ≤ d) {h : AH} {c : Nat} {u v : Int} (hc : 3000 ≤ c ∧ c ≤ 3008) (h6 : c ≠ 3006) (v1 : -1000000 ≤ v) (v2 : v ≤ 1000000) (u1 : -1000000 ≤ u) (u2 : u ≤ 1000000) (ht : (c = 3007 ∨ c = 3008) → (v = 0 ∨ v = 1) ∧ (u = 0 ∨ u = 1)) {K : Int32 → AH → Prop} : CallI d m_M_between [.int (kI c), .int (kI u), .int (kI v)] h K ↔ K (kI (btw c u v)) h := by
  refine Ret.I (d := 1) (ret_of (s_M_between_0 ?_)) hd
  simp (disch := omega) only [decide_eq_true_eq, kI_inj, kI_le, Bool.not_eq_true', decide_eq_false_iff_not]
  by_cases q : c = 3000 ∨ c = 3001 ∨ c = 3002
  · rw [if_neg (by omega), if_neg (by omega), if_neg (by omega), if_neg (by omega), if_neg (by omega), if_neg (by omega)]
    have fin : ∀ x : Int, -1000000000000 ≤ x → x ≤ 1000000000000 → Safe 0 m_M_between (116, [unV, unV, unV, unV, unV], [.long (kJ x)], h) (fun w k => w = some (.int (kI (clampM x))) ∧ k = h) := by
      intro x x1 x2
      refine s_M_between_116 ?_
      simp (disch := omega) only [cmp_le, cmp_ge, decide_eq_true_eq, kJ_le]
      unfold clampM
      by_cases g1 : 1000000 < x
      · rw [if_neg (by omega), if_pos g1]
        (all_goals first | exact ⟨rfl, rfl⟩ | exact ⟨rfl, trivial⟩ | rfl | trivial)
      · rw [if_pos (by omega), if_neg g1]
        by_cases g2 : x < -1000000
        · rw [if_neg (by omega), if_pos g2]
          (all_goals first | exact ⟨rfl, rfl⟩ | exact ⟨rfl, trivial⟩ | rfl | trivial)
        · rw [if_pos (by omega), if_neg g2, kJ_int (by omega) (by omega)]
          (all_goals first | exact ⟨rfl, rfl⟩ | exact ⟨rfl, trivial⟩ | rfl | trivial)
    have mb := mul_b u1 u2 v1 v2
    rw [btw_num q]
    refine s_M_between_81 ?_
    simp (disch := omega) only [kI_long, kJ_add, kJ_sub, kJ_mul, Bool.not_eq_true', decide_eq_false_iff_not, kI_inj]
    rcases q with rfl | rfl | rfl
    · rw [if_neg (by omega), if_pos rfl]
      exact fin _ (by omega) (by omega)
    · rw [if_pos (by omega), if_neg (by omega), if_neg (by omega), if_pos rfl]
      exact fin _ (by omega) (by omega)
    · rw [if_pos (by omega), if_pos (by omega), if_neg (by omega), if_neg (by omega)]
      exact fin _ mb.1 mb.2
  · unfold btw
    by_cases q3 : c = 3003
    · rw [if_pos (by omega), if_pos q3]
      by_cases q4 : u = v
      · rw [if_neg (fun w => w q4), if_pos q4]; (all_goals first | exact ⟨rfl, rfl⟩ | exact ⟨rfl, trivial⟩ | rfl | trivial)
      · rw [if_pos q4, if_neg q4]; (all_goals first | exact ⟨rfl, rfl⟩ | exact ⟨rfl, trivial⟩ | rfl | trivial)
    · rw [if_neg (by omega), if_neg q3]
      by_cases q4 : c = 3004
      · rw [if_pos (by omega), if_pos q4]
        by_cases q5 : u < v
        · rw [if_neg (by omega), if_pos q5]; (all_goals first | exact ⟨rfl, rfl⟩ | exact ⟨rfl, trivial⟩ | rfl | trivial)
        · rw [if_pos (by omega), if_neg q5]; (all_goals first | exact ⟨rfl, rfl⟩ | exact ⟨rfl, trivial⟩ | rfl | trivial)
      · rw [if_neg (by omega), if_neg q4]
        by_cases q5 : c = 3005
        · rw [if_pos (by omega), if_pos q5]
          by_cases q6 : v < u
          · rw [if_neg (by omega), if_pos q6]; (all_goals first | exact ⟨rfl, rfl⟩ | exact ⟨rfl, trivial⟩ | rfl | trivial)
          · rw [if_pos (by omega), if_neg q6]; (all_goals first | exact ⟨rfl, rfl⟩ | exact ⟨rfl, trivial⟩ | rfl | trivial)
        · rw [if_neg (by omega), if_neg q5, if_neg (by omega)]
          have tt := ht (by omega)
          by_cases q6 : c = 3007
          · rw [if_pos (by omega), if_pos q6, and01 tt.2 tt.1]; (all_goals first | exact ⟨rfl, rfl⟩ | exact ⟨rfl, trivial⟩ | rfl | trivial)
          · rw [if_neg (by omega), if_neg q6, if_pos (by omega), if_pos (by omega), or01 tt.2 tt.1]; (all_goals first | exact ⟨rfl, rfl⟩ | exact ⟨rfl, trivial⟩ | rfl | trivial)
