/-! the reference's rows: what stands are worth -/
def mvG (s : ST) (y : DY) (a b m l : Nat) : Nat := if (pop m - pop (yD y)) % 2 = 0 then mvF s a (yB y a) m l else mvF s b (yB y b) m l
theorem mvG_same (s : ST) (y : DY) (a m l : Nat) : mvG s y a a m l = mvF s a (yB y a) m l := by
  unfold mvG
  split <;> rfl
theorem mvF_ok {s : ST} (w : WFS s) {hd hb m l c : Nat} (h : (mvF s hd hb m l).testBit c = true) : c < sN s ∧ m.testBit c = false := by
  rw [mvF_bit] at h
  simp only [Bool.and_eq_true, decide_eq_true_eq] at h
  refine ⟨h.1, ?_⟩
  have h2 := h.2
  unfold mayF at h2
  simp only [Bool.and_eq_true, Bool.not_eq_true'] at h2
  exact h2.1
theorem mvG_N {s : ST} (w : WFS s) {y : DY} {a b m l c : Nat} (h : (mvG s y a b m l).testBit c = true) : c < sN s ∧ m.testBit c = false := by
  unfold mvG at h
  split at h
  · exact mvF_ok w h
  · exact mvF_ok w h
theorem mvG_ok {s : ST} (w : WFS s) (y : DY) (a b : Nat) : OKm (mvG s y a b) := fun m l c h => ⟨Nat.lt_of_lt_of_le (mvG_N w h).1 w.n12, (mvG_N w h).2⟩
theorem mvG_lt {s : ST} (w : WFS s) (y : DY) (a b m l : Nat) : mvG s y a b m l < 4096 := by
  unfold mvG
  split
  · exact mvF_lt w _ _ _ _
  · exact mvF_lt w _ _ _ _
theorem mvG_hi {s : ST} (w : WFS s) {y : DY} {a b m l k : Nat} (h : sN s ≤ k) : (mvG s y a b m l).testBit k = false := by
  cases q : (mvG s y a b m l).testBit k
  · rfl
  · have := (mvG_N w q).1
    omega
def odF (s : ST) (y : DY) (c : Nat) : Int := (oddF s c (yD y) : Int)
theorem odF_b (s : ST) (y : DY) (c : Nat) : 0 ≤ odF s y c ∧ odF s y c ≤ 999 := by
  have := oddF_le s c (yD y)
  unfold odF
  omega
def WT (s : ST) (y : DY) (a b aim tg m l : Nat) : Int := TV (mvG s y a b) (yD y) (odF s y) aim tg m l
abbrev WV (s : ST) (y : DY) (a b aim tg m l : Nat) (f : Nat → Int) : Int := Vf (mvG s y a b) (yD y) (odF s y) aim tg m l f
theorem WT_eq {s : ST} (w : WFS s) {y : DY} {a b aim tg m l : Nat} (hm : m < 4096) : WT s y a b aim tg m l = WV s y a b aim tg m l (fun c => WT s y a b aim tg (m ||| 2 ^ c) c) := TV_eq (mvG_ok w y a b) hm
theorem WT_gd {s : ST} (w : WFS s) {y : DY} {a b aim tg m l : Nat} (ha : aim < 4) (hm : m < 4096) : Gd m (WT s y a b aim tg m l) := TV_gd (mvG_ok w y a b) (odF_b s y) ha m l hm
theorem WT_01 {s : ST} (w : WFS s) {y : DY} {a b aim tg m l : Nat} (ha : aim = 0 ∨ aim = 1) (hm : m < 4096) : 0 ≤ WT s y a b aim tg m l ∧ WT s y a b aim tg m l ≤ 12 - (pop m : Int) := TV_01 (mvG_ok w y a b) ha m l hm
theorem WT_2 {s : ST} (w : WFS s) {y : DY} {a b tg m l : Nat} (hm : m < 4096) : 1 ≤ WT s y a b 2 tg m l := TV_2 (mvG_ok w y a b) m l hm
theorem WT_4 {s : ST} (w : WFS s) {y : DY} {a b tg m l : Nat} (ht : tg ≤ 1) (hm : m < 4096) : WT s y a b 4 tg m l ≠ 0 ∧ WT s y a b 4 tg m l ≤ 13 - (pop m : Int) ∧ -(13 - (pop m : Int)) ≤ WT s y a b 4 tg m l := TV_4 (mvG_ok w y a b) ht m l hm
/-- a worth as the reference writes it -/
def rr (aim : Nat) (v : Int) : Int := if aim = 4 then (if v < 0 then v else v - 1) else if v = 1048576 then (if aim = 3 then 268435456 else -1) else v
theorem M_behind_c {d : Nat} (hd : 2 ≤ d) {h : AH} {m l c : Nat} (hm : m < 4096) (hl : l ≤ 12) (hc : c < 12) {K : Int32 → AH → Prop} : CallI d m_M_behindStroke [.int (kI ((13 * m + l : Nat) : Int)), .int (kI c)] h K ↔ K (kI ((13 * (m ||| 2 ^ c) + c : Nat) : Int)) h := by
  refine Ret.I (d := 2) (ret_of (s_M_behindStroke_0 ?_)) hd
  have e3 : kI ((13 * m + l : Nat) : Int) / kI 13 = kI (m : Int) := by
    have := kI_ndiv (a := 13 * m + l) (b := 13) (by omega) (by omega) (by omega)
    rw [show (13 * m + l) / 13 = m by omega] at this
    exact this
  refine ⟨by decide, ?_⟩
  rw [e3, kI_shl1 (by omega), kI_or, M_standOf_c (by omega)]
  exact ⟨rfl, rfl⟩
theorem M_stillBy_c {s : ST} {y : DY} {d : Nat} {h : AH} (C : MC s y h) (hd : 3 ≤ d) {m l c aim : Nat} {g v : Int} (hm : m < 4096) (hl : l ≤ 12) (hc : c < 12) (ha : aim ≤ 2) (g1 : -100 ≤ g) (g2 : g ≤ 100) (v1 : -1 ≤ v) (v2 : v ≤ 2000000) (hv : ¬ (aim = 2 ∧ (c : Int) = g) → ivA h 98 (13 * (m ||| 2 ^ c) + c) = kI v) {K : Int32 → AH → Prop} : CallI d m_M_stillBy [.ref 88, .int (kI ((13 * m + l : Nat) : Int)), .int (kI c), .int (kI aim), .int (kI g)] h K ↔ K (kI (if aim = 2 ∧ (c : Int) = g then 1 else if v = -1 then -1 else v + 1)) h := by
  have F := C.fix
  have hz := or_4096 hm hc
  refine Ret.I (d := 3) (ret_of (s_M_stillBy_0 ?_)) hd
  have key : ¬ (aim = 2 ∧ (c : Int) = g) → Safe 2 m_M_stillBy (13, [.ref 88, .int (kI ((13 * m + l : Nat) : Int)), .int (kI c), unV, unV, unV], [], h) (fun w k => w = some (.int (kI (if aim = 2 ∧ (c : Int) = g then 1 else if v = -1 then -1 else v + 1))) ∧ k = h) := by
    intro q
    have e := hv q
    have ix' : ix (kI ((13 * (m ||| 2 ^ c) + c : Nat) : Int)) = 13 * (m ||| 2 ^ c) + c := ix_kI (by omega)
    have ib' : inB (kI ((13 * (m ||| 2 ^ c) + c : Nat) : Int)) 53248 = true := inB_kI (by omega) (by omega)
    rw [if_neg q]
    refine s_M_stillBy_13 ?_
    refine ⟨by rw [kd_88 F]; rfl, ?_⟩
    rw [M_behind_c (by omega) hm hl hc, rv_88_23 F, kd_98 F, ln_98 F, ix', e]
    refine ⟨rfl, ib', ?_⟩
    by_cases q2 : v = -1
    · rw [if_neg (by rw [q2]; decide), if_pos q2]
      exact ⟨rfl, rfl⟩
    · rw [if_pos (by rw [Bool.not_eq_true', decide_eq_false_iff_not, kI_inj (by omega) (by omega) (by omega) (by omega)]; exact q2), if_neg q2, kI_add]
      exact ⟨rfl, rfl⟩
  by_cases q1 : aim = 2
  · rw [if_neg (by rw [q1]; decide)]
    by_cases q2 : (c : Int) = g
    · rw [if_neg (by rw [q2]; simp), if_pos ⟨q1, q2⟩]
      exact ⟨rfl, rfl⟩
    · rw [if_pos (by rw [Bool.not_eq_true', decide_eq_false_iff_not, kI_inj (by omega) (by omega) (by omega) (by omega)]; exact q2)]
      exact key (fun w => q2 w.2)
  · rw [if_pos (by rw [Bool.not_eq_true', decide_eq_false_iff_not, kI_inj (by omega) (by omega) (by omega) (by omega)]; omega)]
    exact key (fun w => q1 w.1)
theorem mnF_one {ok : Nat → Bool} {f : Nat → Int} {c : Nat} (q : ok c = true) (e : f c = 0) (H : ∀ k, ok k = true → 0 ≤ f k) {n : Nat} (hn : c < n) : mnF ok (fun _ => 1) f n = 1 := by
  have h1 := mnF_le (w := fun _ => 1) (f := f) q n hn
  rcases mnF_at (ok := ok) (w := fun _ => 1) (f := f) n with h | ⟨b, h2, h3, h4, h5⟩
  · omega
  · have := H b h3
    omega
theorem M_stillAt12 {s : ST} {y : DY} {d : Nat} {h : AH} (C : MC s y h) (hd : 4 ≤ d) {a aim tg m l : Nat} (hm : m < 4096) (hl : l ≤ 12) (ha : aim = 1 ∨ aim = 2) {g : Int} (hg : (aim = 1 ∧ g = -1) ∨ (aim = 2 ∧ g = tg ∧ tg < 12)) (h96 : ivA h 96 (13 * m + l) = kI (mvG s y a a m l)) (hT : ∀ c, (mvG s y a a m l).testBit c = true → ¬ (aim = 2 ∧ c = tg) → ivA h 98 (13 * (m ||| 2 ^ c) + c) = kI (rr aim (WT s y a a aim tg (m ||| 2 ^ c) c))) {K : Int32 → AH → Prop} : CallI d m_M_stillAt [.ref 88, .int (kI ((13 * m + l : Nat) : Int)), .int (kI aim), .int (kI g)] h K ↔ K (kI (rr aim (WT s y a a aim tg m l))) h := by
  have F := C.fix
  have n2 := C.wf.n12
  have mvl := mvG_lt C.wf y a a m l
  have hN : ∀ c, (mvG s y a a m l).testBit c = true → c < sN s ∧ m.testBit c = false := fun c hc => mvG_N C.wf hc
  have hhi : ∀ k, sN s ≤ k → (mvG s y a a m l).testBit k = false := fun k hk => mvG_hi C.wf hk
  have gd : ∀ c, c < 12 → Gd (m ||| 2 ^ c) (WT s y a a aim tg (m ||| 2 ^ c) c) := fun c hc => WT_gd C.wf (by omega) (or_4096 hm hc)
  have eq := WT_eq (w := C.wf) (y := y) (a := a) (b := a) (aim := aim) (tg := tg) (l := l) hm
  have two : ∀ c, c < 12 → aim = 2 → 1 ≤ WT s y a a aim tg (m ||| 2 ^ c) c := fun c hc e => by
    rw [e]; exact WT_2 C.wf (or_4096 hm hc)
  generalize hmv : mvG s y a a m l = mv at *
  generalize hf : (fun c => WT s y a a aim tg (m ||| 2 ^ c) c) = f at *
  have gd' : ∀ c, c < 12 → f c = 1048576 ∨ (0 ≤ f c ∧ f c ≤ 12000) := fun c hc => by
    have := gd c hc
    have p := pop_le (m ||| 2 ^ c)
    have e : f c = WT s y a a aim tg (m ||| 2 ^ c) c := by rw [← hf]
    unfold Gd at this
    omega
  have ix' : ix (kI ((13 * m + l : Nat) : Int)) = 13 * m + l := ix_kI (by omega)
  have ib' : inB (kI ((13 * m + l : Nat) : Int)) 53248 = true := inB_kI (by omega) (by omega)
  obtain ⟨f', hf'⟩ : ∃ f' : Nat → Int, f' = fun c => if aim = 2 ∧ c = tg then 0 else f c := ⟨_, rfl⟩
  have fb : ∀ c, c < 12 → f' c = 1048576 ∨ (0 ≤ f' c ∧ f' c ≤ 12000) := fun c hc => by
    rw [hf']
    show (if aim = 2 ∧ c = tg then 0 else f c) = 1048576 ∨ (0 ≤ (if aim = 2 ∧ c = tg then 0 else f c) ∧ (if aim = 2 ∧ c = tg then 0 else f c) ≤ 12000)
    split
    · right; omega
    · exact gd' c hc
  have mnb : ∀ k, k ≤ 12 → 0 ≤ mnF mv.testBit (fun _ => 1) f' k ∧ (mnF mv.testBit (fun _ => 1) f' k = 1048576 ∨ mnF mv.testBit (fun _ => 1) f' k ≤ 12001) := by
    intro k hk
    rcases mnF_at (ok := mv.testBit) (w := fun _ => 1) (f := f') k with q | ⟨c, q1, q2, q3, q4⟩
    · omega
    · have := fb c (by omega)
      omega
  -- the value
  have val : (if aim = 1 ∧ mv = 0 then 0 else rr 1 (mnF mv.testBit (fun _ => 1) f' (sN s))) = rr aim (WT s y a a aim tg m l) := by
    rw [mnF_n n2 hhi, eq]
    show _ = rr aim (Vf (mvG s y a a) (yD y) (odF s y) aim tg m l f)
    unfold Vf
    rw [hmv]
    rcases ha with e | e
    · have ef : f' = f := by rw [hf', e]; funext c; simp
      rw [ef, e]
      by_cases q : mv = 0
      · rw [if_pos ⟨rfl, q⟩]; simp only [if_pos q]; rfl
      · rw [if_neg (fun w => q w.2)]; simp only [if_neg q]; rfl
    · rw [e, if_neg (by omega)]
      by_cases q : mv.testBit tg = true
      · have h1 : mnF mv.testBit (fun _ => 1) f' 12 = 1 := by
          have t12 : tg < 12 := by omega
          refine mnF_one (c := tg) q (by rw [hf']; simp [e]) (fun k hk => ?_) t12
          have := fb k (by have := (hN k hk).1; omega)
          omega
        rw [h1]
        simp only [if_pos q]; rfl
      · have h1 : mnF mv.testBit (fun _ => 1) f' 12 = mnF mv.testBit (fun _ => 1) f 12 := mnF_congr (fun k hk => by
          rw [hf']
          show (if aim = 2 ∧ k = tg then 0 else f k) = f k
          rw [if_neg (fun w => q (by rw [← w.2]; exact hk))]) 12
        rw [h1]
        simp only [if_neg q]; rfl
  refine Ret.I (d := 4) (ret_of (s_M_stillAt_0 ?_)) hd
  rw [← val]
  have start : Safe 3 m_M_stillAt (28, [.ref 88, .int (kI ((13 * m + l : Nat) : Int)), .int (kI aim), .int (kI g), .int (kI (if aim = 1 ∧ mv = 0 then 0 else -1)), .int (kI 0), unV], [], h) (fun v k => v = some (.int (kI (if aim = 1 ∧ mv = 0 then 0 else rr 1 (mnF mv.testBit (fun _ => 1) f' (sN s))))) ∧ k = h) := by
    suffices H : ∀ k, k ≤ sN s → Safe 3 m_M_stillAt (28, [.ref 88, .int (kI ((13 * m + l : Nat) : Int)), .int (kI aim), .int (kI g), .int (kI (if aim = 1 ∧ mv = 0 then 0 else rr 1 (mnF mv.testBit (fun _ => 1) f' k))), .int (kI k), unV], [], h) (fun v k => v = some (.int (kI (if aim = 1 ∧ mv = 0 then 0 else rr 1 (mnF mv.testBit (fun _ => 1) f' (sN s))))) ∧ k = h) by
      exact H 0 (by omega)
    refine down_ind (sN s) ?_ ?_
    · refine s_M_stillAt_28 ?_
      refine ⟨by rw [kd_88 F]; rfl, ?_⟩
      rw [M_cells_c C (by omega), if_pos (by rw [decide_eq_true_eq, kI_le (by omega) (by omega) (by omega) (by omega)]; omega)]
      exact ⟨rfl, rfl⟩
    · intro k hk ih
      refine s_M_stillAt_28 ?_
      refine ⟨by rw [kd_88 F]; rfl, ?_⟩
      rw [M_cells_c C (by omega), if_neg (by rw [decide_eq_true_eq, kI_le (by omega) (by omega) (by omega) (by omega)]; omega), rv_88_21 F, kd_88 F, kd_96 F, ln_96 F, ix', h96, kI_long (by omega) (by omega)]
      refine ⟨rfl, rfl, ib', ?_⟩
      rw [M_isIn_c (by omega) (by omega) (by omega)]
      rw [mnF_s] at ih
      rw [kI_add]
      by_cases qb : mv.testBit k = true
      · have qm : ¬ (aim = 1 ∧ mv = 0) := fun w => by rw [w.2, Nat.zero_testBit] at qb; cases qb
        rw [if_neg (by rw [dec_b0]; exact fun w => w qb), if_pos (by rw [Bool.not_eq_true', decide_eq_false_iff_not, z0, kI_inj (by omega) (by omega) (by omega) (by omega)]; omega)]
        rw [if_pos qb, if_neg qm] at ih
        rw [if_neg qm]
        have fk := fb k (by omega)
        have mk := mnb k (by omega)
        have g0 := gd' k (by omega)
        have r1 : rr aim (f k) = if f k = 1048576 then -1 else f k := by
          unfold rr
          rcases ha with e | e <;> rw [e] <;> rfl
        have rb : -1 ≤ rr aim (f k) ∧ rr aim (f k) ≤ 2000000 := by
          rw [r1]
          split <;> omega
        refine s_M_stillAt_65 ?_
        refine ⟨by rw [kd_88 F]; rfl, ?_⟩
        rw [M_stillBy_c C (by omega) hm hl (by omega) (by omega) (by omega) (by omega) (v := rr aim (f k)) rb.1 rb.2 (fun q => ?_)]
        · have its : (if aim = 2 ∧ (k : Int) = g then 1 else if rr aim (f k) = -1 then -1 else rr aim (f k) + 1) = if f' k = 1048576 then -1 else 1 + f' k := by
            rw [hf']
            show _ = if (if aim = 2 ∧ k = tg then 0 else f k) = 1048576 then -1 else 1 + (if aim = 2 ∧ k = tg then 0 else f k)
            rw [r1]
            by_cases q : aim = 2 ∧ k = tg
            · rw [if_pos q, if_pos (by omega)]; rfl
            · rw [if_neg q, if_neg (by omega)]
              by_cases q2 : f k = 1048576
              · rw [if_pos q2, if_pos q2]; rfl
              · rw [if_neg q2, if_neg q2, if_neg (by omega)]; omega
          rw [its]
          by_cases q2 : f' k = 1048576
          · rw [if_pos q2, if_neg (by decide), kI_add]
            rw [if_neg (by omega)] at ih
            exact ih
          · rw [if_neg q2, if_pos (by rw [Bool.not_eq_true', decide_eq_false_iff_not, kI_inj (by omega) (by omega) (by omega) (by omega)]; omega)]
            by_cases q3 : mnF mv.testBit (fun _ => 1) f' k = 1048576
            · rw [q3, if_pos (by omega)] at ih
              rw [q3, if_pos (by decide)]
              refine s_M_stillAt_112 ?_
              rw [kI_add]
              have r2 : rr 1 (1 + f' k) = 1 + f' k := by unfold rr; rw [if_neg (by omega), if_neg (by omega)]
              rw [r2] at ih
              exact ih
            · have r3 : rr 1 (mnF mv.testBit (fun _ => 1) f' k) = mnF mv.testBit (fun _ => 1) f' k := by unfold rr; rw [if_neg (by omega), if_neg q3]
              rw [r3, if_neg (by rw [decide_eq_true_eq, kI_inj (by omega) (by omega) (by omega) (by omega)]; omega), if_pos (by rw [Bool.not_eq_true', decide_eq_false_iff_not, z0, kI_inj (by omega) (by omega) (by omega) (by omega)]; omega)]
              by_cases q4 : 1 + f' k < mnF mv.testBit (fun _ => 1) f' k
              · rw [if_pos q4] at ih
                rw [if_neg (by rw [decide_eq_true_eq, kI_le (by omega) (by omega) (by omega) (by omega)]; omega)]
                refine s_M_stillAt_112 ?_
                rw [kI_add]
                have r2 : rr 1 (1 + f' k) = 1 + f' k := by unfold rr; rw [if_neg (by omega), if_neg (by omega)]
                rw [r2] at ih
                exact ih
              · rw [if_neg q4, r3] at ih
                rw [if_pos (by rw [decide_eq_true_eq, kI_le (by omega) (by omega) (by omega) (by omega)]; omega)]
                refine s_M_stillAt_117 ?_
                rw [kI_add]
                exact ih
        · rw [← hf]
          exact hT k qb (fun w => q (by omega))
      · rw [if_pos (by rw [dec_b0]; exact qb)]
        rw [if_neg qb] at ih
        exact ih
  rcases ha with e | e
  · rw [if_neg (by rw [e]; decide), if_neg (by rw [e]; decide), rv_88_21 F, kd_88 F, kd_96 F, ln_96 F, ix', h96]
    refine ⟨rfl, rfl, ib', ?_⟩
    by_cases q : mv = 0
    · rw [if_neg (by rw [q]; decide)]
      refine s_M_stillAt_18 ?_
      rw [if_pos ⟨e, q⟩] at start
      exact start
    · rw [if_pos (by rw [Bool.not_eq_true', decide_eq_false_iff_not, z0, kI_inj (by omega) (by omega) (by omega) (by omega)]; omega)]
      refine s_M_stillAt_22 ?_
      rw [if_neg (fun w => q w.2)] at start
      exact start
  · rw [if_neg (by rw [e]; decide), if_pos (by rw [e]; decide)]
    refine s_M_stillAt_22 ?_
    rw [if_neg (by omega)] at start
    exact start
theorem M_stillAt0 {s : ST} {y : DY} {d : Nat} {h : AH} (C : MC s y h) (hd : 4 ≤ d) {a tg m l : Nat} (hm : m < 4096) (hl : l ≤ 12) (ht : tg < 12) (h96 : ivA h 96 (13 * m + l) = kI (mvG s y a a m l)) (hT : ∀ c, (mvG s y a a m l).testBit c = true → c ≠ tg → ivA h 98 (13 * (m ||| 2 ^ c) + c) = kI (rr 0 (WT s y a a 0 tg (m ||| 2 ^ c) c))) {K : Int32 → AH → Prop} : CallI d m_M_stillAt [.ref 88, .int (kI ((13 * m + l : Nat) : Int)), .int (kI (0 : Nat)), .int (kI tg)] h K ↔ K (kI (rr 0 (WT s y a a 0 tg m l))) h := by
  have F := C.fix
  have n2 := C.wf.n12
  have mvl := mvG_lt C.wf y a a m l
  have hN : ∀ c, (mvG s y a a m l).testBit c = true → c < sN s ∧ m.testBit c = false := fun c hc => mvG_N C.wf hc
  have hhi : ∀ k, sN s ≤ k → (mvG s y a a m l).testBit k = false := fun k hk => mvG_hi C.wf hk
  have gd : ∀ c, c < 12 → 0 ≤ WT s y a a 0 tg (m ||| 2 ^ c) c ∧ WT s y a a 0 tg (m ||| 2 ^ c) c ≤ 12 := fun c hc => by
    have := WT_01 (aim := 0) C.wf (y := y) (a := a) (b := a) (tg := tg) (l := c) (Or.inl rfl) (or_4096 hm hc)
    omega
  have gm := WT_01 (aim := 0) C.wf (y := y) (a := a) (b := a) (tg := tg) (l := l) (Or.inl rfl) hm
  have rr0 : ∀ v : Int, v ≤ 12 → rr 0 v = v := fun v hv => by unfold rr; rw [if_neg (by omega), if_neg (by omega)]
  rw [rr0 _ (by omega)]
  have eq := WT_eq (w := C.wf) (y := y) (a := a) (b := a) (aim := 0) (tg := tg) (l := l) hm
  generalize hmv : mvG s y a a m l = mv at *
  generalize hf : (fun c => WT s y a a 0 tg (m ||| 2 ^ c) c) = f at *
  have gd' : ∀ c, c < 12 → 0 ≤ f c ∧ f c ≤ 12 := fun c hc => by rw [← hf]; exact gd c hc
  have ix' : ix (kI ((13 * m + l : Nat) : Int)) = 13 * m + l := ix_kI (by omega)
  have ib' : inB (kI ((13 * m + l : Nat) : Int)) 53248 = true := inB_kI (by omega) (by omega)
  have mxb : ∀ k, 0 ≤ mxF (fun c => mv.testBit c && c != tg) f k ∧ mxF (fun c => mv.testBit c && c != tg) f k ≤ 13 := mxF_b (by omega) (fun c hc => by
    simp only [Bool.and_eq_true] at hc
    have := (hN c hc.1).1
    have := gd' c (by omega)
    omega)
  have val : mxF (fun c => mv.testBit c && c != tg) f (sN s) = WT s y a a 0 tg m l := by
    rw [mxF_n n2 (fun k hk => by rw [hhi k hk]; rfl), eq]
    show _ = Vf (mvG s y a a) (yD y) (odF s y) 0 tg m l f
    unfold Vf
    rw [hmv]
    rfl
  refine Ret.I (d := 4) (ret_of (s_M_stillAt_0 ?_)) hd
  rw [← val, if_pos (by decide)]
  refine s_M_stillAt_18 ?_
  suffices H : ∀ k, k ≤ sN s → Safe 3 m_M_stillAt (28, [.ref 88, .int (kI ((13 * m + l : Nat) : Int)), .int (kI (0 : Nat)), .int (kI tg), .int (kI (mxF (fun c => mv.testBit c && c != tg) f k)), .int (kI k), unV], [], h) (fun v k => v = some (.int (kI (mxF (fun c => mv.testBit c && c != tg) f (sN s)))) ∧ k = h) by
    exact H 0 (by omega)
  refine down_ind (sN s) ?_ ?_
  · refine s_M_stillAt_28 ?_
    refine ⟨by rw [kd_88 F]; rfl, ?_⟩
    rw [M_cells_c C (by omega), if_pos (by rw [decide_eq_true_eq, kI_le (by omega) (by omega) (by omega) (by omega)]; omega)]
    exact ⟨rfl, rfl⟩
  · intro k hk ih
    refine s_M_stillAt_28 ?_
    refine ⟨by rw [kd_88 F]; rfl, ?_⟩
    rw [M_cells_c C (by omega), if_neg (by rw [decide_eq_true_eq, kI_le (by omega) (by omega) (by omega) (by omega)]; omega), rv_88_21 F, kd_88 F, kd_96 F, ln_96 F, ix', h96, kI_long (by omega) (by omega)]
    refine ⟨rfl, rfl, ib', ?_⟩
    rw [M_isIn_c (by omega) (by omega) (by omega)]
    rw [mxF_s] at ih
    rw [kI_add]
    by_cases qb : mv.testBit k = true
    · rw [if_neg (by rw [dec_b0]; exact fun w => w qb), if_neg (by decide)]
      by_cases qt : k = tg
      · rw [if_neg (by rw [qt]; simp)]
        rw [if_neg (by simp [qt])] at ih
        exact ih
      · rw [if_pos (by rw [Bool.not_eq_true', decide_eq_false_iff_not, kI_inj (by omega) (by omega) (by omega) (by omega)]; omega)]
        rw [if_pos (by simp [qb, qt])] at ih
        have fk := gd' k (by omega)
        have mk := mxb k
        refine s_M_stillAt_65 ?_
        refine ⟨by rw [kd_88 F]; rfl, ?_⟩
        rw [M_stillBy_c C (by omega) hm hl (by omega) (by omega) (by omega) (by omega) (v := f k) (by omega) (by omega) (fun q => ?_)]
        · have its : (if (0 : Nat) = 2 ∧ (k : Int) = (tg : Int) then 1 else if f k = -1 then -1 else f k + 1) = f k + 1 := by rw [if_neg (by omega), if_neg (by omega)]
          rw [its, if_pos (by rw [Bool.not_eq_true', decide_eq_false_iff_not, kI_inj (by omega) (by omega) (by omega) (by omega)]; omega), if_neg (by rw [decide_eq_true_eq, kI_inj (by omega) (by omega) (by omega) (by omega)]; omega), if_neg (by decide)]
          by_cases q4 : mxF (fun c => mv.testBit c && c != tg) f k < 1 + f k
          · rw [if_pos q4] at ih
            rw [if_neg (by rw [decide_eq_true_eq, kI_le (by omega) (by omega) (by omega) (by omega)]; omega)]
            refine s_M_stillAt_112 ?_
            rw [kI_add, Int.add_comm (f k) 1]
            exact ih
          · rw [if_neg q4] at ih
            rw [if_pos (by rw [decide_eq_true_eq, kI_le (by omega) (by omega) (by omega) (by omega)]; omega)]
            refine s_M_stillAt_117 ?_
            rw [kI_add]
            exact ih
        · have e := hT k qb qt
          rw [show WT s y a a 0 tg (m ||| 2 ^ k) k = f k by rw [← hf], rr0 _ (by omega)] at e
          exact e
    · rw [if_pos (by rw [dec_b0]; exact qb)]
      rw [if_neg (by simp [qb])] at ih
      exact ih
/-- for rows of one hand -/
def GoalOk (aim tg : Nat) (g : Int) : Prop := (aim = 0 ∧ g = tg ∧ tg < 12) ∨ (aim = 1 ∧ g = -1) ∨ (aim = 2 ∧ g = tg ∧ tg < 12)
theorem M_stillAt_c {s : ST} {y : DY} {d : Nat} {h : AH} (C : MC s y h) (hd : 4 ≤ d) {a aim tg m l : Nat} {g : Int} (hg : GoalOk aim tg g) (hm : m < 4096) (hl : l ≤ 12) (h96 : ivA h 96 (13 * m + l) = kI (mvG s y a a m l)) (hT : ∀ c, (mvG s y a a m l).testBit c = true → ivA h 98 (13 * (m ||| 2 ^ c) + c) = kI (rr aim (WT s y a a aim tg (m ||| 2 ^ c) c))) {K : Int32 → AH → Prop} : CallI d m_M_stillAt [.ref 88, .int (kI ((13 * m + l : Nat) : Int)), .int (kI aim), .int (kI g)] h K ↔ K (kI (rr aim (WT s y a a aim tg m l))) h := by
  rcases hg with ⟨e, e2, e3⟩ | ⟨e, e2⟩ | ⟨e, e2, e3⟩
  · subst e; subst e2
    exact M_stillAt0 C hd hm hl e3 h96 (fun c hc _ => hT c hc)
  · exact M_stillAt12 C hd hm hl (Or.inl e) (Or.inl ⟨e, e2⟩) h96 (fun c hc _ => hT c hc)
  · exact M_stillAt12 C hd hm hl (Or.inr e) (Or.inr ⟨e, e2, e3⟩) h96 (fun c hc _ => hT c hc)
theorem M_standNow_c {s : ST} {y : DY} {d : Nat} {h : AH} (C : MC s y h) (hd : 2 ≤ d) {K : Int32 → AH → Prop} : CallI d m_M_standNow [.ref 88] h K ↔ K (kI ((13 * yD y + yL y : Nat) : Int)) h := by
  refine Ret.I (d := 2) (ret_of (s_M_standNow_0 ?_)) hd
  have F := C.fix
  simp (disch := omega) only [kd_88 F, rv_88_1 F, kd_89 F, ln_89 F, ix_lit, inB_lit, decide_true, Bool.true_or, Bool.or_true, true_and, and_true, kI_add, kI_sub, kI_mul, tn_add, Int.toNat_natCast, Int.reduceToNat, kI_le, kI_lt, kI_inj, decide_eq_true_eq, Bool.not_eq_true', decide_eq_false_iff_not, not_true_eq_false, not_false_eq_true, Classical.not_not, Bool.false_eq_true, if_true, if_false, z0, bI_k0, bI_k1, isB_b, isB_0, isB_1, kI_long, kd_stI, ln_stI, rv_stI, C.i22, C.i23, M_standOf_c]
theorem cb_next {y : DY} {m l c : Nat} (cb : cbP y m l) (hc : c < 12) (hb : m.testBit c = false) : cbP y (m ||| 2 ^ c) c := by
  have sb := subB_iff.mp cb.1
  have hD : (yD y).testBit c = false := by
    cases q : (yD y).testBit c
    · rfl
    · rw [sb c q] at hb; cases hb
  refine ⟨subB_iff.mpr (subB_or c sb), Or.inr ⟨fun e => ?_, hc, ?_⟩⟩
  · have := or_self_bit m c
    rw [e, hD] at this
    cases this
  · rw [dif_bit, or_self_bit, hD]; rfl
/-- the reference's table of worths, from masks k on -/
def Stl (s : ST) (y : DY) (a b aim tg k : Nat) (h : AH) : Prop := ∀ m l, k ≤ m → m < 2 ^ sN s → l ≤ 12 → cbP y m l → ivA h 98 (13 * m + l) = kI (rr aim (WT s y a b aim tg m l))
abbrev F98 (h h' : AH) : Prop := Fr (fun a _ => a = 98) JM h h'
theorem M_laysStill_g {s : ST} {y : DY} {h : AH} (C : MC s y h) {a aim tg : Nat} {g : Int} (hg : GoalOk aim tg g) (M : Mays s y a 96 (yD y) h) : GI 5 m_M_laysStill [.ref 88, .int (kI aim), .int (kI g)] h (kI (rr aim (WT s y a a aim tg (yD y) (yL y)))) (fun h' => F98 h h' ∧ Stl s y a a aim tg (yD y) h') := by
  have F := C.fix
  have n2 := C.wf.n12
  have p1 : 1 ≤ 2 ^ sN s := Nat.one_le_two_pow
  have p12 : 2 ^ sN s ≤ 2 ^ 12 := Nat.pow_le_pow_right (by omega) n2
  have p12' : (2 : Nat) ^ 12 = 4096 := rfl
  have hD := C.wy.1
  have hL := C.wy.l12 C.wf
  refine GIo (s_M_laysStill_0 ?_)
  simp (disch := omega) only [kd_88 F, decide_true, true_and, M_everyCell_c C]
  suffices H : ∀ k, k ≤ 2 ^ sN s → yD y ≤ k → ∀ h2, F98 h h2 → Stl s y a a aim tg k h2 → Safe 4 m_M_laysStill (5, [.ref 88, .int (kI aim), .int (kI g), .int (kI ((k : Int) - 1)), unV], [], h2) (fun v h' => Eqv v (some (.int (kI (rr aim (WT s y a a aim tg (yD y) (yL y)))))) ∧ F98 h h' ∧ Stl s y a a aim tg (yD y) h') by
    have := H (2 ^ sN s) (by omega) (by omega) h (Fr_rfl _ _ _) (fun m l h1 h2 => by omega)
    rw [show ((2 ^ sN s : Nat) : Int) - 1 = ((2 ^ sN s - 1 : Nat) : Int) by omega] at this
    exact this
  have c98 : ∀ h2, F98 h h2 → MC s y h2 := fun h2 e => C.scr e (fun k w => by omega)
  have fin : ∀ k h2, k < 2 ^ sN s + 1 → k = yD y → F98 h h2 → Stl s y a a aim tg k h2 → Safe 4 m_M_laysStill (5, [.ref 88, .int (kI aim), .int (kI g), .int (kI ((k : Int) - 1)), unV], [], h2) (fun v h' => Eqv v (some (.int (kI (rr aim (WT s y a a aim tg (yD y) (yL y)))))) ∧ F98 h h' ∧ Stl s y a a aim tg (yD y) h') := by
    intro k h2 hk ek e2 S2
    subst ek
    have C2 := c98 h2 e2
    have F2 := C2.fix
    have e98 := S2 (yD y) (yL y) (by omega) hD (by omega) ⟨subB_iff.mpr (subB_refl _), Or.inl ⟨rfl, rfl⟩⟩
    have ix' : ix (kI ((13 * yD y + yL y : Nat) : Int)) = 13 * yD y + yL y := ix_kI (by omega)
    have ib' : inB (kI ((13 * yD y + yL y : Nat) : Int)) 53248 = true := inB_kI (by omega) (by omega)
    refine s_M_laysStill_5 ?_
    have z : (yD y : Int) - 1 < (yD y : Int) := by omega
    simp (disch := omega) only [kd_88 F2, rv_88_1 F2, kd_89 F2, ln_89 F2, rv_88_23 F2, kd_98 F2, ln_98 F2, ix_lit, inB_lit, decide_true, Bool.true_or, Bool.or_true, true_and, and_true, kI_add, kI_sub, kI_mul, tn_add, Int.toNat_natCast, Int.reduceToNat, kI_le, kI_lt, kI_inj, decide_eq_true_eq, Bool.not_eq_true', decide_eq_false_iff_not, not_true_eq_false, not_false_eq_true, Classical.not_not, Bool.false_eq_true, if_true, if_false, z0, bI_k0, bI_k1, isB_b, isB_0, isB_1, kI_long, kd_stI, ln_stI, rv_stI, C2.i22, z, M_standNow_c C2, ix', ib', e98]
    exact ⟨rfl, e2, S2⟩
  intro k
  induction k with
  | zero =>
    intro _ h0 h2 e2 S2
    exact fin 0 h2 (by omega) (by omega) e2 S2
  | succ k ih =>
    intro hk h0 h2 e2 S2
    by_cases zD : k < yD y
    · exact fin (k + 1) h2 (by omega) (by omega) e2 S2
    · have C2 := c98 h2 e2
      have F2 := C2.fix
      have ek : ((k + 1 : Nat) : Int) - 1 = (k : Int) := by omega
      refine s_M_laysStill_5 ?_
      rw [ek]
      have z : ¬ (k : Int) < (yD y : Int) := by omega
      simp (disch := omega) only [kd_88 F2, rv_88_1 F2, kd_89 F2, ln_89 F2, ix_lit, inB_lit, decide_true, Bool.true_or, Bool.or_true, true_and, and_true, kI_add, kI_sub, kI_mul, tn_add, Int.toNat_natCast, Int.reduceToNat, kI_le, kI_lt, kI_inj, decide_eq_true_eq, Bool.not_eq_true', decide_eq_false_iff_not, not_true_eq_false, not_false_eq_true, Classical.not_not, Bool.false_eq_true, if_true, if_false, z0, bI_k0, bI_k1, isB_b, isB_0, isB_1, kI_long, kd_stI, ln_stI, rv_stI, C2.i22, z]
      suffices H2 : ∀ l, l ≤ 13 → ∀ h3, F98 h h3 → Stl s y a a aim tg (k + 1) h3 → (∀ l', l' < l → cbP y k l' → ivA h3 98 (13 * k + l') = kI (rr aim (WT s y a a aim tg k l'))) → Safe 4 m_M_laysStill (19, [.ref 88, .int (kI aim), .int (kI g), .int (kI k), .int (kI l)], [], h3) (fun v h' => Eqv v (some (.int (kI (rr aim (WT s y a a aim tg (yD y) (yL y)))))) ∧ F98 h h' ∧ Stl s y a a aim tg (yD y) h') by
        exact H2 0 (by omega) h2 e2 S2 (fun l' hl' => by omega)
      refine down_ind 13 ?_ ?_
      · intro h3 e3 S3 R3
        refine s_M_laysStill_19 ?_
        have z13 : (12 : Int) < ((13 : Nat) : Int) := by omega
        have em : kI (k : Int) + kI (-1) = kI ((k : Int) - 1) := by rw [kI_add]; rfl
        rw [em]
        simp (disch := omega) only [ix_lit, inB_lit, decide_true, Bool.true_or, Bool.or_true, true_and, and_true, kI_add, kI_sub, kI_mul, tn_add, Int.toNat_natCast, Int.reduceToNat, kI_le, kI_lt, kI_inj, decide_eq_true_eq, Bool.not_eq_true', decide_eq_false_iff_not, not_true_eq_false, not_false_eq_true, Classical.not_not, Bool.false_eq_true, if_true, if_false, z0, bI_k0, bI_k1, isB_b, isB_0, isB_1, kI_long, kd_stI, ln_stI, rv_stI, z13]
        refine ih (by omega) (by omega) h3 e3 (fun m l h1 h2' h3' cb => ?_)
        by_cases qm : m = k
        · rw [qm] at cb ⊢
          exact R3 l (by omega) cb
        · exact S3 m l (by omega) h2' h3' cb
      · intro l hl ih2 h3 e3 S3 R3
        have C3 := c98 h3 e3
        have F3 := C3.fix
        have zl : ¬ (12 : Int) < (l : Int) := by omega
        refine s_M_laysStill_19 ?_
        simp (disch := omega) only [kd_88 F3, ix_lit, inB_lit, decide_true, Bool.true_or, Bool.or_true, true_and, and_true, kI_add, kI_sub, kI_mul, tn_add, Int.toNat_natCast, Int.reduceToNat, kI_le, kI_lt, kI_inj, decide_eq_true_eq, Bool.not_eq_true', decide_eq_false_iff_not, not_true_eq_false, not_false_eq_true, Classical.not_not, Bool.false_eq_true, if_true, if_false, z0, bI_k0, bI_k1, isB_b, isB_0, isB_1, kI_long, kd_stI, ln_stI, rv_stI, zl, M_canBe_c C3]
        refine ⟨fun cb => ?_, fun nb => ?_⟩
        · rw [if_neg (by omega)]
          have hl' := cbP_l C.wf C.wy (show k < 2 ^ sN s by omega) cb
          have e96 : ivA h3 96 (13 * k + l) = kI (mvG s y a a k l) := by
            rw [e3.2.2.2.2.2.1 96 _ (by omega), mvG_same]
            exact M k l (by omega) (by omega) (by omega) cb
          have ix' : ix (kI ((13 * k + l : Nat) : Int)) = 13 * k + l := ix_kI (by omega)
          have ib' : inB (kI ((13 * k + l : Nat) : Int)) 53248 = true := inB_kI (by omega) (by omega)
          rw [M_standOf_c (by omega), M_standOf_c (by omega)]
          refine ⟨by simp [kd_88 F3], ?_⟩
          rw [M_stillAt_c C3 (by omega) hg (by omega) (by omega) e96 (fun c hc => ?_)]
          · rw [rv_88_23 F3, kd_98 F3, ln_98 F3, ix']
            refine ⟨rfl, ib', ?_⟩
            refine ih2 _ (e3.trans ((Fr_rfl (fun a _ => a = 98) JM h3).stI rfl _)) (fun m l' h1 h2' h3' cb' => ?_) (fun l' hl2 cb' => ?_)
            · rw [iv_stI, if_neg (by omega)]; exact S3 m l' h1 h2' h3' cb'
            · rw [iv_stI]
              by_cases ql : l' = l
              · rw [if_pos (by omega), ql]
              · rw [if_neg (by omega)]; exact R3 l' (by omega) cb'
          · have hb := mvG_N C.wf hc
            have hlt := bit_lt hb.2
            exact S3 _ _ (by omega) (or_lt2 (by omega) hb.1) (by omega) (cb_next cb (by omega) hb.2)
        · refine ih2 h3 e3 S3 (fun l' hl2 cb' => ?_)
          by_cases ql : l' = l
          · rw [ql] at cb'; exact absurd cb' nb
          · exact R3 l' (by omega) cb'
