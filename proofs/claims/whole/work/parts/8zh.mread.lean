/-! the reference as it reads: its small steps -/
abbrev FRd (h h' : AH) : Prop := Fr (fun x k => (x = 88 ∧ (k = 6 ∨ k = 7 ∨ k = 9 ∨ k = 10 ∨ k = 11 ∨ k = 12)) ∨ (x = 92 ∧ 100 ≤ k)) JM h h'
def MS (tp : Nat → Nat) (n : Nat) (law : Nat) (a : Nat) (cs : List Nat) (h : AH) : Prop := (Fix h) ∧ (OX h) ∧ (TR tp n h) ∧ (a ≤ n) ∧ (ivA h 88 6 = kI a) ∧ (ivA h 88 7 = kI (tEn tp n a : Nat)) ∧ (ivA h 88 9 = kI (tKd tp n a : Nat)) ∧ (tKd tp n a = 23 → ivA h 88 10 = kI (tNm tp n a : Nat)) ∧ (ivA h 88 11 = kI 0) ∧ (ivA h 88 15 = kI law) ∧ (ivA h 92 100 = kI (cs.length : Nat)) ∧ (∀ k, k < cs.length → ivA h 92 (101 + k) = kI (cs.getD k 0 : Nat))
theorem MS.F {tp : Nat → Nat} {n : Nat} {law : Nat} {a : Nat} {cs : List Nat} {h : AH} (C : MS tp n law a cs h) : Fix h := C.1
theorem MS.O {tp : Nat → Nat} {n : Nat} {law : Nat} {a : Nat} {cs : List Nat} {h : AH} (C : MS tp n law a cs h) : OX h := C.2.1
theorem MS.R {tp : Nat → Nat} {n : Nat} {law : Nat} {a : Nat} {cs : List Nat} {h : AH} (C : MS tp n law a cs h) : TR tp n h := C.2.2.1
theorem MS.an {tp : Nat → Nat} {n : Nat} {law : Nat} {a : Nat} {cs : List Nat} {h : AH} (C : MS tp n law a cs h) : a ≤ n := C.2.2.2.1
theorem MS.i6 {tp : Nat → Nat} {n : Nat} {law : Nat} {a : Nat} {cs : List Nat} {h : AH} (C : MS tp n law a cs h) : ivA h 88 6 = kI a := C.2.2.2.2.1
theorem MS.i7 {tp : Nat → Nat} {n : Nat} {law : Nat} {a : Nat} {cs : List Nat} {h : AH} (C : MS tp n law a cs h) : ivA h 88 7 = kI (tEn tp n a : Nat) := C.2.2.2.2.2.1
theorem MS.i9 {tp : Nat → Nat} {n : Nat} {law : Nat} {a : Nat} {cs : List Nat} {h : AH} (C : MS tp n law a cs h) : ivA h 88 9 = kI (tKd tp n a : Nat) := C.2.2.2.2.2.2.1
theorem MS.i10 {tp : Nat → Nat} {n : Nat} {law : Nat} {a : Nat} {cs : List Nat} {h : AH} (C : MS tp n law a cs h) : tKd tp n a = 23 → ivA h 88 10 = kI (tNm tp n a : Nat) := C.2.2.2.2.2.2.2.1
theorem MS.i11 {tp : Nat → Nat} {n : Nat} {law : Nat} {a : Nat} {cs : List Nat} {h : AH} (C : MS tp n law a cs h) : ivA h 88 11 = kI 0 := C.2.2.2.2.2.2.2.2.1
theorem MS.i15 {tp : Nat → Nat} {n : Nat} {law : Nat} {a : Nat} {cs : List Nat} {h : AH} (C : MS tp n law a cs h) : ivA h 88 15 = kI law := C.2.2.2.2.2.2.2.2.2.1
theorem MS.nc {tp : Nat → Nat} {n : Nat} {law : Nat} {a : Nat} {cs : List Nat} {h : AH} (C : MS tp n law a cs h) : ivA h 92 100 = kI (cs.length : Nat) := C.2.2.2.2.2.2.2.2.2.2.1
theorem MS.cd {tp : Nat → Nat} {n : Nat} {law : Nat} {a : Nat} {cs : List Nat} {h : AH} (C : MS tp n law a cs h) : ∀ k, k < cs.length → ivA h 92 (101 + k) = kI (cs.getD k 0 : Nat) := C.2.2.2.2.2.2.2.2.2.2.2
theorem tKd_b (tp : Nat → Nat) (n a : Nat) : tKd tp n a < 42 := by
  unfold tKd
  split
  · omega
  · split
    · have kb : ∀ (w : List Nat) (l : List (List Nat)) (j : Nat), kyH w l j = 22 ∨ kyH w l j < j + l.length := by
        intro w l
        induction l with
        | nil => intro j; exact Or.inl rfl
        | cons x r ih =>
          intro j
          show (if x = w then j else kyH w r (j + 1)) = 22 ∨ (if x = w then j else kyH w r (j + 1)) < j + (r.length + 1)
          have := ih (j + 1)
          split <;> omega
      have := kb (wdL tp a (tEn tp n a)) keyL 0
      have l16 : keyL.length = 16 := rfl
      unfold keyF
      omega
    · split
      · split <;> omega
      · have := sgG_b (tp a) 12
        omega
theorem nxA_le {tp : Nat → Nat} {n a : Nat} (h : a ≤ n) : a ≤ nxA tp n a ∧ nxA tp n a ≤ n := by
  by_cases q : a < n
  · have := nxA_b (tp := tp) q
    omega
  · have e : tEn tp n a = a := by unfold tEn; rw [if_pos (by omega)]
    have := tAt_b (tp := tp) (n := n) (b := a) h
    unfold nxA
    rw [e]
    exact this
theorem tEn_le {tp : Nat → Nat} {n a : Nat} (h : a ≤ n) : tEn tp n a ≤ n := by
  by_cases q : a < n
  · exact (tEn_b (tp := tp) q).2
  · unfold tEn
    rw [if_pos (by omega)]
    exact h
theorem M_is_c {tp : Nat → Nat} {n law a : Nat} {cs : List Nat} {h : AH} (S : MS tp n law a cs h) {d k : Nat} (hk : k < 100) (hd : 1 ≤ d) {K : Int32 → AH → Prop} : CallI d m_M_is [.ref 88, .int (kI k)] h K ↔ K (bI32 (tKd tp n a = k)) h := by
  have b := tKd_b tp n a
  refine Ret.I (d := 1) (ret_of (s_M_is_0 ?_)) hd
  rw [kd_88 S.F, S.i11, if_neg (by decide), S.i9]
  refine ⟨rfl, rfl, ?_⟩
  unfold bI32
  by_cases q : tKd tp n a = k
  · rw [if_neg (by rw [q]; simp), if_pos q]
    exact ⟨by decide, rfl, rfl⟩
  · rw [if_pos (by rw [Bool.not_eq_true', decide_eq_false_iff_not, kI_inj (by omega) (by omega) (by omega) (by omega)]; omega), if_neg q]
    exact ⟨by decide, rfl, rfl⟩
/-- something is wrong -/
def MBd (h : AH) : Prop := Fix h ∧ ∃ w : Nat, ivA h 88 11 = kI w ∧ 1 ≤ w ∧ w ≤ 4
theorem MBd.nz {h : AH} (B : MBd h) : (!decide (ivA h 88 11 = 0)) = true ∧ ¬ decide (ivA h 88 11 = 0) = true := by
  obtain ⟨_, w, e, h1, h2⟩ := B
  have : ¬ ivA h 88 11 = 0 := by rw [e, z0, kI_inj (by omega) (by omega) (by omega) (by omega)]; omega
  exact ⟨by rw [Bool.not_eq_true', decide_eq_false_iff_not]; exact this, by rw [decide_eq_true_eq]; exact this⟩
theorem M_is_d {h : AH} (B : MBd h) {d : Nat} {k : Int32} (hd : 1 ≤ d) {K : Int32 → AH → Prop} : CallI d m_M_is [.ref 88, .int k] h K ↔ K (kI 0) h := by
  refine Ret.I (d := 1) (ret_of (s_M_is_0 ?_)) hd
  rw [kd_88 B.1, if_pos B.nz.1]
  exact ⟨rfl, by decide, rfl, rfl⟩
theorem M_fails_d {h : AH} (B : MBd h) {d : Nat} {k : Int32} (hd : 1 ≤ d) {K : AH → Prop} : CallV d m_M_fails [.ref 88, .int k] h K ↔ K h := by
  refine Ret.V (d := 1) (ret_of (s_M_fails_0 ?_)) hd
  rw [kd_88 B.1, if_neg B.nz.2]
  exact ⟨rfl, rfl, rfl⟩
theorem M_eats_d {h : AH} (B : MBd h) {d : Nat} {k : Int32} (hd : 2 ≤ d) {K : Int32 → AH → Prop} : CallI d m_M_eats [.ref 88, .int k] h K ↔ K (kI 0) h := by
  refine Ret.I (d := 2) (ret_of (s_M_eats_0 ?_)) hd
  rw [kd_88 B.1, M_is_d B (by omega), if_neg (by decide)]
  exact ⟨rfl, by decide, rfl, rfl⟩
theorem M_codes_d {h : AH} (B : MBd h) {d : Nat} {k : Int32} (hd : 1 ≤ d) {K : AH → Prop} : CallV d m_M_codes [.ref 88, .int k] h K ↔ K h := by
  refine Ret.V (d := 1) (ret_of (s_M_codes_0 ?_)) hd
  rw [kd_88 B.1, if_neg B.nz.2]
  exact ⟨rfl, rfl, rfl⟩
theorem FRd_stI {h h1 : AH} (e : FRd h h1) {x k : Nat} (q : (x = 88 ∧ (k = 6 ∨ k = 7 ∨ k = 9 ∨ k = 10 ∨ k = 11 ∨ k = 12)) ∨ (x = 92 ∧ 100 ≤ k)) (v : Int32) : FRd h (stI h1 x k v) := Fr.stI (I := fun x k => (x = 88 ∧ (k = 6 ∨ k = 7 ∨ k = 9 ∨ k = 10 ∨ k = 11 ∨ k = 12)) ∨ (x = 92 ∧ 100 ≤ k)) e q v
theorem M_fails_g {tp : Nat → Nat} {n law a : Nat} {cs : List Nat} {h : AH} (S : MS tp n law a cs h) {k : Nat} (k1 : 1 ≤ k) (k2 : k ≤ 4) : GV 1 m_M_fails [.ref 88, .int (kI k)] h (fun h' => FRd h h' ∧ MBd h' ∧ ivA h' 88 11 = kI (fkF tp n a k : Nat) ∧ ivA h' 88 12 = kI a) := by
  have b := tKd_b tp n a
  have F := S.F
  refine GVo (s_M_fails_0 ?_)
  rw [kd_88 F, S.i11, if_pos (by decide), S.i9]
  refine ⟨rfl, rfl, ?_⟩
  have fin : ∀ w : Nat, 1 ≤ w → w ≤ 4 → w = fkF tp n a k → Safe 0 m_M_fails (23, [.ref 88, unV], [.int (kI w), .ref 88], h) (fun v h' => Eqv v none ∧ FRd h h' ∧ MBd h' ∧ ivA h' 88 11 = kI (fkF tp n a k : Nat) ∧ ivA h' 88 12 = kI a) := fun w w1 w2 ew => by
    refine s_M_fails_23 ?_
    rw [kd_stI, kd_88 F, iv_stI, if_neg (by omega), S.i6]
    have e : FRd h (stI (stI h 88 11 (kI w)) 88 12 (kI a)) := FRd_stI (FRd_stI (Fr_rfl _ _ _) (by omega) _) (by omega) _
    have i11 : ivA (stI (stI h 88 11 (kI w)) 88 12 (kI a)) 88 11 = kI w := by rw [iv_stI, if_neg (by omega), iv_stI, if_pos ⟨rfl, rfl⟩]
    exact ⟨rfl, rfl, rfl, rfl, e, ⟨e.fix F, w, i11, w1, w2⟩, by rw [i11, ew], by rw [iv_stI, if_pos ⟨rfl, rfl⟩]⟩
  by_cases q : tKd tp n a = 25
  · rw [if_neg (by rw [q]; simp)]
    exact fin 1 (by omega) (by omega) (by unfold fkF; rw [if_pos q])
  · rw [if_pos (by rw [Bool.not_eq_true', decide_eq_false_iff_not, kI_inj (by omega) (by omega) (by omega) (by omega)]; omega)]
    exact fin k k1 k2 (by unfold fkF; rw [if_neg q])
theorem M_nextS {tp : Nat → Nat} {n law a : Nat} {cs : List Nat} {h : AH} (S : MS tp n law a cs h) : GV 6 m_M_next [.ref 88] h (fun h' => FRd h h' ∧ MS tp n law (nxA tp n a) cs h') := by
  have := M_next_g S.F S.O S.R S.i7 (tEn_le S.an)
  obtain ⟨h', hr, e1, j6, j7, j9, j10⟩ := this
  refine ⟨h', hr, ?_⟩
  have i92 : ∀ k, ivA h' 92 k = ivA h 92 k := fun k => e1.2.2.2.2.2.1 92 k (by omega)
  exact ⟨e1.mono (fun x k z => by omega) (fun _ _ z => z), e1.fix S.F, S.O.fr e1 (fun x k z => by omega), S.R.fr e1 (by omega) (fun k => by omega), (nxA_le S.an).2, j6, j7, j9, j10, by rw [e1.2.2.2.2.2.1 88 11 (by omega)]; exact S.i11, by rw [e1.2.2.2.2.2.1 88 15 (by omega)]; exact S.i15, by rw [i92]; exact S.nc, fun k hk => by rw [i92]; exact S.cd k hk⟩
theorem M_eats_y {tp : Nat → Nat} {n law a : Nat} {cs : List Nat} {h : AH} (S : MS tp n law a cs h) {k : Nat} (hk : tKd tp n a = k) : GI 7 m_M_eats [.ref 88, .int (kI k)] h (kI 1) (fun h' => FRd h h' ∧ MS tp n law (nxA tp n a) cs h') := by
  have b := tKd_b tp n a
  refine GIo (s_M_eats_0 ?_)
  rw [kd_88 S.F, M_is_c S (by omega) (by omega), if_pos (by rw [Bool.not_eq_true', decide_eq_false_iff_not, bI_0]; exact fun z => z hk), kd_88 S.F]
  refine ⟨rfl, rfl, ?_⟩
  exact GV.use (M_nextS S) (by omega) (fun h' e => ⟨by decide, rfl, e⟩)
theorem M_eats_n {tp : Nat → Nat} {n law a : Nat} {cs : List Nat} {h : AH} (S : MS tp n law a cs h) {k d : Nat} (k1 : k < 100) (hk : tKd tp n a ≠ k) (hd : 2 ≤ d) {K : Int32 → AH → Prop} : CallI d m_M_eats [.ref 88, .int (kI k)] h K ↔ K (kI 0) h := by
  refine Ret.I (d := 2) (ret_of (s_M_eats_0 ?_)) hd
  rw [kd_88 S.F, M_is_c S k1 (by omega), if_neg (by rw [Bool.not_eq_true', decide_eq_false_iff_not, bI_0]; exact fun z => z hk)]
  exact ⟨rfl, by decide, rfl, rfl⟩
theorem M_codes_g {tp : Nat → Nat} {n law a : Nat} {cs : List Nat} {h : AH} (S : MS tp n law a cs h) (l : cs.length < 900) (c : Nat) : GV 1 m_M_codes [.ref 88, .int (kI c)] h (fun h' => FRd h h' ∧ MS tp n law a (cs ++ [c]) h') := by
  have F := S.F
  refine GVo (s_M_codes_0 ?_)
  have ei : ix (kI 101 + kI ((cs.length : Nat) : Int)) = 101 + cs.length := by
    rw [kI_add, show (101 : Int) + (cs.length : Nat) = ((101 + cs.length : Nat) : Int) by omega]
    exact ix_kI (by omega)
  have eb : inB (kI 101 + kI ((cs.length : Nat) : Int)) 1001 = true := by
    rw [kI_add]
    exact inB_lit (by omega) (by omega) (by omega)
  have e100 : ix (kI 100) = 100 := ix_kI (n := 100) (by omega)
  have b100 : inB (kI 100) 1001 = true := inB_lit (by omega) (by omega) (by omega)
  have f1 : FRd h (stI h 92 (101 + cs.length) (kI c)) := FRd_stI (Fr_rfl _ _ _) (by omega) _
  have F1 := f1.fix F
  rw [kd_88 F, S.i11, if_pos (by decide), rv_88_4 F, kd_92 F, ln_92 F, e100, S.nc, ei, eb, b100]
  obtain ⟨h1, h1e⟩ : ∃ h1, h1 = stI h 92 (101 + cs.length) (kI c) := ⟨_, rfl⟩
  have c1 : ivA h1 92 100 = kI ((cs.length : Nat) : Int) := by rw [h1e, iv_stI, if_neg (by omega)]; exact S.nc
  rw [← h1e] at f1 F1 ⊢
  rw [kd_88 F1, rv_88_4 F1, kd_92 F1, ln_92 F1, b100, c1, kI_add]
  have f2 : FRd h (stI h1 92 100 (kI ((cs.length : Int) + 1))) := FRd_stI f1 (by omega) _
  have i88 : ∀ k, ivA (stI h1 92 100 (kI ((cs.length : Int) + 1))) 88 k = ivA h 88 k := fun k => by rw [iv_stI, if_neg (by omega), h1e, iv_stI, if_neg (by omega)]
  refine ⟨rfl, rfl, rfl, rfl, rfl, rfl, rfl, rfl, rfl, rfl, rfl, rfl, rfl, f2, f2.fix F, S.O.fr f2 (fun x k z => by omega), S.R.fr f2 (by omega) (fun k => by omega), S.an, by rw [i88]; exact S.i6, by rw [i88]; exact S.i7, by rw [i88]; exact S.i9, fun z => by rw [i88]; exact S.i10 z, by rw [i88]; exact S.i11, by rw [i88]; exact S.i15, ?_, fun k hk => ?_⟩
  · rw [iv_stI, if_pos ⟨rfl, rfl⟩, List.length_append]
    rfl
  · rw [List.length_append] at hk
    have l1 : [c].length = 1 := rfl
    rw [iv_stI, if_neg (by omega), h1e, iv_stI]
    by_cases q : k = cs.length
    · rw [if_pos ⟨rfl, by omega⟩, q, List.getD_eq_getElem?_getD, List.getElem?_append_right (Nat.le_refl _), Nat.sub_self]
      rfl
    · rw [if_neg (by omega), S.cd k (by omega), List.getD_eq_getElem?_getD, List.getD_eq_getElem?_getD, List.getElem?_append_left (by omega)]
theorem M_wordOf_c {tp : Nat → Nat} {n law a : Nat} {cs : List Nat} {h : AH} (S : MS tp n law a cs h) (hl : law ≤ 1) {k d : Nat} (hk : k < 100) (hd : 2 ≤ d) {K : Int32 → AH → Prop} : CallI d m_M_wordOf [.ref 88, .int (kI k)] h K ↔ K (kI (match wdO law k with | some w => ((w : Nat) : Int) | none => -1)) h := by
  refine Ret.I (d := 2) (ret_of (s_M_wordOf_0 ?_)) hd
  rw [kI_long (by omega) (by omega), M_within_c (by omega) (by omega) (by omega) (by omega) (by omega) (by omega) (by omega)]
  unfold wdO
  by_cases q : 8 ≤ k ∧ k ≤ 11
  · rw [if_neg (by rw [dec_b0]; exact fun z => z (by omega)), if_pos q, kI_sub]
    refine ⟨?_, rfl⟩
    show some (Value.int (kI ((k : Int) - 8))) = some (Value.int (kI ((k - 8 : Nat) : Int)))
    congr 3
    omega
  · rw [if_pos (by rw [dec_b0]; omega), if_neg q, kd_88 S.F, S.i15]
    refine ⟨rfl, ?_⟩
    by_cases q2 : law = 0
    · rw [if_pos (by rw [q2]; decide), if_pos q2]
      have ne : ∀ j : Int, 0 ≤ j → j < 100 → (k : Int) ≠ j → (!decide (kI (k : Int) = kI j)) = true := fun j h0 hj z => by rw [Bool.not_eq_true', decide_eq_false_iff_not, kI_inj (by omega) (by omega) (by omega) (by omega)]; omega
      by_cases q3 : k = 2
      · subst q3
        exact ⟨rfl, rfl⟩
      · rw [if_pos (ne 2 (by omega) (by omega) (by omega)), if_neg q3]
        by_cases q4 : k = 3
        · subst q4
          exact ⟨rfl, rfl⟩
        · rw [if_pos (ne 3 (by omega) (by omega) (by omega)), if_neg q4]
          by_cases q5 : k = 5
          · subst q5
            exact ⟨rfl, rfl⟩
          · rw [if_pos (ne 5 (by omega) (by omega) (by omega)), if_neg q5]
            by_cases q6 : k = 12
            · subst q6
              exact ⟨rfl, rfl⟩
            · rw [if_pos (ne 12 (by omega) (by omega) (by omega)), if_neg q6]
              exact ⟨rfl, rfl⟩
    · rw [if_neg (by rw [show law = 1 by omega]; decide), if_neg q2]
      exact ⟨rfl, rfl⟩
theorem M_goesIn_y {tp : Nat → Nat} {n law a : Nat} {cs : List Nat} {h : AH} (S : MS tp n law a cs h) {deep : Nat} (hd : deep < 6) : GI 7 m_M_goesIn [.ref 88, .int (kI deep)] h (kI 1) (fun h' => FRd h h' ∧ MS tp n law (nxA tp n a) cs h') := by
  refine GIo (s_M_goesIn_0 ?_)
  rw [if_pos (by rw [Bool.not_eq_true', decide_eq_false_iff_not, kI_inj (by omega) (by omega) (by omega) (by omega)]; omega)]
  refine s_M_goesIn_11 ?_
  rw [kd_88 S.F, S.i11, if_neg (by decide)]
  refine ⟨rfl, rfl, ?_⟩
  refine GV.use (M_nextS S) (by omega) (fun h' e => ?_)
  refine s_M_goesIn_22 ?_
  rw [kd_88 e.2.F, e.2.i11, if_neg (by decide)]
  exact ⟨rfl, by decide, rfl, e⟩
theorem M_goesIn_n {tp : Nat → Nat} {n law a : Nat} {cs : List Nat} {h : AH} (S : MS tp n law a cs h) (nb : tKd tp n a ≠ 25) : GI 7 m_M_goesIn [.ref 88, .int (kI (6 : Nat))] h (kI 0) (fun h' => FRd h h' ∧ MBd h' ∧ ivA h' 88 11 = kI (4 : Nat) ∧ ivA h' 88 12 = kI a) := by
  refine GIo (s_M_goesIn_0 ?_)
  rw [if_neg (by decide), kd_88 S.F]
  refine ⟨rfl, ?_⟩
  refine GV.use (M_fails_g S (k := 4) (by omega) (by omega)) (by omega) (fun h' e => ?_)
  obtain ⟨e1, B, e2, e3⟩ := e
  refine s_M_goesIn_11 ?_
  rw [kd_88 B.1, if_pos B.nz.1]
  refine ⟨rfl, ?_⟩
  refine s_M_goesIn_22 ?_
  rw [kd_88 B.1, if_pos B.nz.1]
  have fe : fkF tp n a 4 = 4 := by unfold fkF; rw [if_neg nb]
  rw [fe] at e2
  exact ⟨rfl, by decide, rfl, e1, B, e2, e3⟩
