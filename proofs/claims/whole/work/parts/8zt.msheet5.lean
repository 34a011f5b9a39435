/-! a text as a whole -/
def shtF (tp : Nat → Nat) (n : Nat) : LR := if tKd tp n (tAt tp n 0) = 0 then bnd (hdF tp n (nxA tp n (tAt tp n 0)) g0F []) (fun a g cs => lnsF tp n (n + 1) a g cs) else .error (fkF tp n (tAt tp n 0) 2, tAt tp n 0)
theorem M_sheet_go {tp : Nat → Nat} {nt n : Nat} {h : AH} (F : Fix h) (O : OX h) (t : TM tp nt h) (hn : n ≤ nt) {d : Nat} (hd : 41 ≤ d) {Q : Option Value → AH → Prop} (K : ∀ h', Fr (fun x _ => x = 88 ∨ x = 92) JM h h' → ivA h' 88 5 = kI 0 → MPl tp n (shtF tp n) h' h' → Safe d m_M_sheet (142, [.ref 88, unV, unV], [], h') Q) : Safe d m_M_sheet (0, [.ref 88, .int (kI n), unV], [], h) Q := by
  obtain ⟨law, hl, l15⟩ : ∃ law : Nat, law ≤ 4294967295 ∧ ivA h 88 15 = kI law := ⟨(ivA h 88 15).toUInt32.toNat, by have := (ivA h 88 15).toUInt32.toNat_lt; omega, u32_kI (ivA h 88 15).toUInt32⟩
  have n9 := t.le
  have tb := t.b
  have tv := t.v
  refine s_M_sheet_0 ?_
  rw [kd_88 F, kd_stI, kd_88 F, iv_stI, if_neg (by omega), t.i, kI_long (by omega) (by omega), kI_long (by omega) (by omega)]
  refine ⟨rfl, rfl, (M_within_c (by omega) (by omega) (by omega) (by omega) (by omega) (by omega) (by omega)).mpr ?_⟩
  rw [if_pos (by rw [Bool.not_eq_true', decide_eq_false_iff_not, bI_0]; exact fun y => y (by omega))]
  simp only [kd_stI, kd_88 F]
  refine ⟨rfl, rfl, rfl, rfl, rfl, ?_⟩
  obtain ⟨h2, h2e⟩ : ∃ h2, h2 = stI (stI (stI (stI (stI h 88 0 (kI 0)) 88 8 (kI n)) 88 5 (kI 0)) 88 7 (kI 0)) 88 11 (kI 0) := ⟨_, rfl⟩
  rw [← h2e]
  have up : ∀ (h1 : AH) (k : Nat) (x : Int32), Fr (fun x _ => x = 88 ∨ x = 92) JM h h1 → Fr (fun x _ => x = 88 ∨ x = 92) JM h (stI h1 88 k x) := fun h1 k x e => Fr.stI (I := fun x _ => x = 88 ∨ x = 92) e (Or.inl rfl) x
  have e2 : Fr (fun x _ => x = 88 ∨ x = 92) JM h h2 := by rw [h2e]; exact up _ _ _ (up _ _ _ (up _ _ _ (up _ _ _ (up _ _ _ (Fr_rfl _ _ _)))))
  have F2 := e2.fix F
  have j8 : ivA h2 88 8 = kI n := by rw [h2e, iv_stI, if_neg (by omega), iv_stI, if_neg (by omega), iv_stI, if_neg (by omega), iv_stI, if_pos ⟨rfl, rfl⟩]
  have j7 : ivA h2 88 7 = kI ((0 : Nat) : Int) := by rw [h2e, iv_stI, if_neg (by omega), iv_stI, if_pos ⟨rfl, rfl⟩]; rfl
  have j5 : ivA h2 88 5 = kI 0 := by rw [h2e, iv_stI, if_neg (by omega), iv_stI, if_neg (by omega), iv_stI, if_pos ⟨rfl, rfl⟩]
  have j11 : ivA h2 88 11 = kI 0 := by rw [h2e, iv_stI, if_pos ⟨rfl, rfl⟩]
  have j15 : ivA h2 88 15 = kI law := by rw [h2e, iv_stI, if_neg (by omega), iv_stI, if_neg (by omega), iv_stI, if_neg (by omega), iv_stI, if_neg (by omega), iv_stI, if_neg (by omega)]; exact l15
  rw [rv_88_4 F2]
  refine GV.use (M_plain_g (kd_92 F2) (by rw [ln_92 F2]; omega)) (by omega) (fun h3 e3 => ?_)
  obtain ⟨e3, P3⟩ := e3
  have f3 : Fr (fun x _ => x = 88 ∨ x = 92) JM h h3 := e2.trans (e3.mono (fun x k z => Or.inr z.1) (fun _ _ z => z))
  have F3 := f3.fix F
  have i88 : ∀ k, ivA h3 88 k = ivA h2 88 k := fun k => e3.2.2.2.2.2.1 88 k (by omega)
  have R3 : TR tp n h3 := ⟨by rw [i88]; exact j8, by omega, fun k hk => by rw [f3.2.2.2.2.2.1 91 k (by omega)]; exact tv k (by omega), fun k hk => tb k (by omega)⟩
  have O3 : OX h3 := O.fr f3 (fun x k z => by omega)
  rw [kd_88 F3]
  refine ⟨rfl, ?_⟩
  refine GV.use (M_next_g F3 O3 R3 (b := 0) (by rw [i88]; exact j7) (by omega)) (by omega) (fun h4 e4 => ?_)
  obtain ⟨e4, k6, k7, k9, k10⟩ := e4
  have f4 : Fr (fun x _ => x = 88 ∨ x = 92) JM h h4 := f3.trans (e4.mono (fun x k z => Or.inl z.1) (fun _ _ z => z))
  have F4 := f4.fix F
  have i92 : ∀ k, ivA h4 92 k = ivA h3 92 k := fun k => e4.2.2.2.2.2.1 92 k (by omega)
  have j54 : ivA h4 88 5 = kI 0 := by rw [e4.2.2.2.2.2.1 88 5 (by omega), i88]; exact j5
  have ln5 : ∀ h5 h6, FLn h5 h6 → ivA h5 88 5 = kI 0 → ivA h6 88 5 = kI 0 := fun h5 h6 b z => by rw [b.2.2.2.2.2.1 88 5 (by omega)]; exact z
  have M4 : ML tp n law (tAt tp n 0) g0F [] h4 := ⟨⟨F4, O3.fr e4 (fun x k z => by omega), R3.fr e4 (by omega) (fun k => by omega), (tAt_b (tp := tp) (n := n) (b := 0) (by omega)).2, k6, k7, k9, k10, by rw [e4.2.2.2.2.2.1 88 11 (by omega), i88]; exact j11, by rw [e4.2.2.2.2.2.1 88 15 (by omega), i88]; exact j15, by rw [i92]; exact P3 100 (by omega), fun k hk => absurd hk (Nat.not_lt_zero _)⟩, fun k hk => by rw [i92]; exact P3 k (by omega)⟩
  have S4 := M4.1
  have fl : ∀ h5 h6, Fr (fun x _ => x = 88 ∨ x = 92) JM h h5 → FLn h5 h6 → Fr (fun x _ => x = 88 ∨ x = 92) JM h h6 := fun h5 h6 a b => a.trans (b.mono (fun x k z => by omega) (fun _ _ z => z))
  have self : ∀ r h5 h6, MPl tp n r h5 h6 → MPl tp n r h6 h6 := fun r h5 h6 z => ⟨Fr_rfl _ _ _, z.2⟩
  rw [kd_88 F4]
  refine ⟨rfl, ?_⟩
  by_cases q : tKd tp n (tAt tp n 0) = 0
  · have es : shtF tp n = bnd (hdF tp n (nxA tp n (tAt tp n 0)) g0F []) (fun a g cs => lnsF tp n (n + 1) a g cs) := by unfold shtF; rw [if_pos q]
    rw [es] at K
    refine GI.use (M_eats_y S4 (k := 0) q) (by omega) (fun h5 e5 => ?_)
    have M5 := M4.rd e5.1 e5.2
    rw [if_pos (by decide)]
    have f5 := fl h4 h5 f4 (ln_of e5.1)
    exact M_sheet_66g (by omega) M5 hl (H := 0) (D := 0) rfl rfl (by omega) (Nat.zero_le _) hd (fun h6 e6 => K h6 (fl h5 h6 f5 e6.1) (ln5 _ _ e6.1 (ln5 _ _ (ln_of e5.1) j54)) (self _ _ _ e6))
  · have es : shtF tp n = .error (fkF tp n (tAt tp n 0) 2, tAt tp n 0) := by unfold shtF; rw [if_neg q]
    rw [es] at K
    refine (M_eats_n S4 (k := 0) (by omega) q (by omega)).mpr ?_
    rw [if_neg (by decide), kd_88 F4]
    refine ⟨rfl, ?_⟩
    refine GV.use (M_fails_g S4 (k := 2) (by omega) (by omega)) (by omega) (fun h5 e5 => ?_)
    obtain ⟨e5, B, y1, y2⟩ := e5
    have f5 := fl h4 h5 f4 (ln_of e5)
    exact M_sheet_66d hd B (fun h6 e6 => K h6 (fl h5 h6 f5 e6.1) (ln5 _ _ e6.1 (ln5 _ _ (ln_of e5) j54)) ⟨Fr_rfl _ _ _, e6.2.1, by rw [e6.2.2.1]; exact y1, by rw [e6.2.2.2]; exact y2⟩)
