/-! a new sheet -/
def farW (W c l : Nat) : Nat := dist (c / W) (l / W) + dist (c % W) (l % W)
def nbW (W N c : Nat) : Nat := bitsB (fun k => (if k = 12 then 0 else farW W c k) == 1) N
theorem nbF_W (s : ST) (c : Nat) : nbF s c = nbW (sW s) (sN s) c := rfl
def up2F (f : Nat → Nat) (a b : Nat) : Nat → Nat := fun k => if k = b then (if b = a then f a ||| 2 ^ b else f b) ||| 2 ^ a else if k = a then f a ||| 2 ^ b else f k
def nbR (W N : Nat) : Nat → Nat → Nat
  | 0 => fun _ => 0
  | i + 1 => let f := if (i + 1) % W ≠ 0 ∧ i + 1 < N then up2F (nbR W N i) i (i + 1) else nbR W N i
    if i + W < N then up2F f i (i + W) else f
theorem nbR_all : ∀ W, W < 13 → ∀ R, R < 13 → (decide (W = 0) || decide (12 < R * W) || (List.range (R * W)).all (fun k => decide (nbR W (R * W) (R * W) k = nbW W (R * W) k))) = true := by decide +kernel
theorem nbR_W {W R k : Nat} (h1 : 1 ≤ W) (h2 : 1 ≤ R) (h : R * W ≤ 12) (hk : k < R * W) : nbR W (R * W) (R * W) k = nbW W (R * W) k := by
  have R12 : R ≤ 12 := Nat.le_trans (Nat.le_mul_of_pos_right R h1) h
  have W12 : W ≤ 12 := Nat.le_trans (Nat.le_mul_of_pos_left W h2) h
  have := nbR_all W (by omega) R (by omega)
  rw [Bool.or_eq_true, Bool.or_eq_true, decide_eq_true_eq, decide_eq_true_eq, List.all_eq_true] at this
  rcases this with (z | z) | z
  · omega
  · omega
  · have := z k (List.mem_range.mpr hk)
    rw [decide_eq_true_eq] at this
    exact this
/-- the neighbours as they lie -/
theorem Sh_nb_254 {p nb W N : Nat} {h0 : AH} {d : Nat} {Q : Option Value → AH → Prop} (w1 : 1 ≤ W) (w12 : W ≤ 12) (n12 : N ≤ 12) (ne : nb ≠ p) {i : Nat} (hi : i < N) {f : Nat → Nat} {h : AH} (k8 : kdA h p = 8) (i1 : ivA h p 1 = kI W) (i2 : ivA h p 2 = kI N) (r10 : rvA h p 10 = nb) (kn : kdA h nb = 20) (ln : lnA h nb = N) (fv : ∀ k, k < N → ivA h nb k = kI (f k : Nat)) (e0 : Fr (fun x _ => x = nb) JM h0 h) (K : ∀ h', Fr (fun x _ => x = nb) JM h0 h' → (∀ k, k < N → ivA h' nb k = kI ((if i + W < N then up2F f i (i + W) else f) k : Nat)) → Safe d m_Sh_new (190, [.ref p, unV, unV, unV, unV, unV, unV, unV, unV, .int (kI ((i + 1 : Nat) : Int))], [], h') Q) : Safe d m_Sh_new (254, [.ref p, unV, unV, unV, unV, unV, unV, unV, unV, .int (kI i)], [], h) Q := by
  refine s_Sh_new_254 ?_
  rw [i2, i1, kI_add, kI_add, k8, r10, kn, ln, show (i : Int) + (W : Int) = ((i + W : Nat) : Int) by omega]
  refine ⟨rfl, rfl, ?_⟩
  by_cases q : i + W < N
  · rw [if_pos q] at K
    rw [if_neg (by rw [decide_eq_true_eq, kI_le (by omega) (by omega) (by omega) (by omega)]; omega), ix_kI (by omega), fv i hi, kI_shl1 (by omega), kI_or]
    obtain ⟨h1, h1e⟩ : ∃ h1, h1 = stI h nb i (kI ((f i ||| 2 ^ (i + W) : Nat) : Int)) := ⟨_, rfl⟩
    rw [← h1e]
    have r1 : rvA h1 p 10 = nb := by rw [h1e]; exact r10
    have j1 : ivA h1 p 1 = kI W := by rw [h1e, iv_stI, if_neg (by omega)]; exact i1
    have k81 : kdA h1 p = 8 := by rw [h1e]; exact k8
    have kn1 : kdA h1 nb = 20 := by rw [h1e]; exact kn
    have ln1 : lnA h1 nb = N := by rw [h1e]; exact ln
    have v1 : ivA h1 nb (i + W) = kI (f (i + W) : Nat) := by rw [h1e, iv_stI, if_neg (by omega)]; exact fv _ q
    rw [r1, j1, k81, kn1, ln1, kI_add, show (i : Int) + (W : Int) = ((i + W : Nat) : Int) by omega, ix_kI (by omega), v1, kI_shl1 (by omega), kI_or]
    refine ⟨rfl, rfl, inB_kI (by omega) (by omega), rfl, rfl, inB_kI (by omega) (by omega), rfl, rfl, rfl, inB_kI (by omega) (by omega), rfl, inB_kI (by omega) (by omega), ?_⟩
    refine K _ ?_ (fun k hk => ?_)
    · rw [h1e]
      exact (e0.stI rfl _).stI rfl _
    · rw [iv_stI, h1e, iv_stI]
      unfold up2F
      by_cases z : k = i + W
      · rw [if_pos ⟨rfl, z⟩, if_pos z, if_neg (by omega)]
      · rw [if_neg (by omega), if_neg z]
        by_cases y : k = i
        · rw [if_pos ⟨rfl, y⟩, if_pos y]
        · rw [if_neg (by omega), if_neg y]
          exact fv k hk
  · rw [if_neg q] at K
    rw [if_pos (by rw [decide_eq_true_eq, kI_le (by omega) (by omega) (by omega) (by omega)]; omega)]
    exact K h e0 fv
theorem Sh_nb {p nb W N : Nat} {h0 : AH} {d : Nat} {Q : Option Value → AH → Prop} (w1 : 1 ≤ W) (w12 : W ≤ 12) (n12 : N ≤ 12) (ne : nb ≠ p) (k8 : kdA h0 p = 8) (i1 : ivA h0 p 1 = kI W) (i2 : ivA h0 p 2 = kI N) (r10 : rvA h0 p 10 = nb) (kn : kdA h0 nb = 20) (ln : lnA h0 nb = N) (K : ∀ h', Fr (fun x _ => x = nb) JM h0 h' → (∀ k, k < N → ivA h' nb k = kI (nbR W N N k : Nat)) → Q none h') : ∀ i, i ≤ N → ∀ h, Fr (fun x _ => x = nb) JM h0 h → (∀ k, k < N → ivA h nb k = kI (nbR W N i k : Nat)) → Safe d m_Sh_new (190, [.ref p, unV, unV, unV, unV, unV, unV, unV, unV, .int (kI i)], [], h) Q := by
  have up : ∀ h, Fr (fun x _ => x = nb) JM h0 h → kdA h p = 8 ∧ ivA h p 1 = kI W ∧ ivA h p 2 = kI N ∧ rvA h p 10 = nb ∧ kdA h nb = 20 ∧ lnA h nb = N := fun h e => ⟨by rw [e.1]; exact k8, by rw [e.2.2.2.2.2.1 p 1 (by omega)]; exact i1, by rw [e.2.2.2.2.2.1 p 2 (by omega)]; exact i2, by rw [e.2.2.1]; exact r10, by rw [e.1]; exact kn, by rw [e.2.1]; exact ln⟩
  refine down_ind N ?_ ?_
  · intro h e fv
    obtain ⟨u1, u2, u3, u4, u5, u6⟩ := up h e
    refine s_Sh_new_190 ?_
    rw [u1, u3, if_pos (by rw [decide_eq_true_eq, kI_le (by omega) (by omega) (by omega) (by omega)]; omega)]
    exact ⟨rfl, K h e fv⟩
  · intro i hi ih h e fv
    obtain ⟨u1, u2, u3, u4, u5, u6⟩ := up h e
    have step : nbR W N (i + 1) = if i + W < N then up2F (if (i + 1) % W ≠ 0 ∧ i + 1 < N then up2F (nbR W N i) i (i + 1) else nbR W N i) i (i + W) else (if (i + 1) % W ≠ 0 ∧ i + 1 < N then up2F (nbR W N i) i (i + 1) else nbR W N i) := rfl
    refine s_Sh_new_190 ?_
    have wz : (!decide (kI (W : Int) = 0)) = true := by rw [Bool.not_eq_true', decide_eq_false_iff_not, z0, kI_inj (by omega) (by omega) (by omega) (by omega)]; omega
    rw [u1, u3, u2, kI_add, u4, u5, u6, wz, if_neg (by rw [decide_eq_true_eq, kI_le (by omega) (by omega) (by omega) (by omega)]; omega), show (i : Int) + 1 = ((i + 1 : Nat) : Int) from rfl, kI_rem (by omega) (by omega) (by omega)]
    refine ⟨rfl, rfl, rfl, ?_⟩
    have next : ∀ h3 f, Fr (fun x _ => x = nb) JM h0 h3 → (∀ k, k < N → ivA h3 nb k = kI (f k : Nat)) → f = (if (i + 1) % W ≠ 0 ∧ i + 1 < N then up2F (nbR W N i) i (i + 1) else nbR W N i) → Safe d m_Sh_new (254, [.ref p, unV, unV, unV, unV, unV, unV, unV, unV, .int (kI i)], [], h3) Q := fun h3 f e3 f3 ef => by
      obtain ⟨y1, y2, y3, y4, y5, y6⟩ := up h3 e3
      refine Sh_nb_254 (f := f) w1 w12 n12 ne hi y1 y2 y3 y4 y5 y6 f3 e3 (fun h4 e4 f4 => ?_)
      refine ih h4 e4 (fun k hk => ?_)
      rw [f4 k hk, step, ef]
    have mb : (i + 1) % W < W := Nat.mod_lt _ (by omega)
    by_cases q1 : (i + 1) % W = 0
    · rw [if_pos (by rw [q1]; decide)]
      exact next h _ e fv (by rw [if_neg (fun z => z.1 q1)])
    · rw [if_neg (by rw [decide_eq_true_eq, z0, kI_inj (by omega) (by omega) (by omega) (by omega)]; omega)]
      by_cases q2 : N ≤ i + 1
      · rw [if_pos (by rw [decide_eq_true_eq, kI_le (by omega) (by omega) (by omega) (by omega)]; omega)]
        exact ⟨rfl, next h _ e fv (by rw [if_neg (fun z => by omega)])⟩
      · rw [if_neg (by rw [decide_eq_true_eq, kI_le (by omega) (by omega) (by omega) (by omega)]; omega), ix_kI (n := i) (by omega), ix_kI (n := i + 1) (by omega), fv i hi, kI_shl1 (c := i + 1) (by omega), kI_or]
        obtain ⟨h1, h1e⟩ : ∃ h1, h1 = stI h nb i (kI ((nbR W N i i ||| 2 ^ (i + 1) : Nat) : Int)) := ⟨_, rfl⟩
        rw [← h1e]
        have r1 : rvA h1 p 10 = nb := by rw [h1e]; exact u4
        have k81 : kdA h1 p = 8 := by rw [h1e]; exact u1
        have kn1 : kdA h1 nb = 20 := by rw [h1e]; exact u5
        have ln1 : lnA h1 nb = N := by rw [h1e]; exact u6
        have v1 : ivA h1 nb (i + 1) = kI (nbR W N i (i + 1) : Nat) := by rw [h1e, iv_stI, if_neg (by omega)]; exact fv _ (by omega)
        rw [r1, k81, kn1, ln1, v1, kI_shl1 (c := i) (by omega), kI_or]
        refine ⟨rfl, rfl, rfl, inB_kI (by omega) (by omega), rfl, inB_kI (by omega) (by omega), rfl, rfl, inB_kI (by omega) (by omega), rfl, inB_kI (by omega) (by omega), ?_⟩
        refine next _ (up2F (nbR W N i) i (i + 1)) ?_ (fun k hk => ?_) (by rw [if_pos ⟨q1, by omega⟩])
        · rw [h1e]
          exact (e.stI rfl _).stI rfl _
        · rw [iv_stI, h1e, iv_stI]
          unfold up2F
          by_cases z : k = i + 1
          · rw [if_pos ⟨rfl, z⟩, if_pos z, if_neg (by omega)]
          · rw [if_neg (by omega), if_neg z]
            by_cases y : k = i
            · rw [if_pos ⟨rfl, y⟩, if_pos y]
            · rw [if_neg (by omega), if_neg y]
              exact fv k hk
