/-! what a permit remembers -/
theorem bv_dif64 (x y : BitVec 64) : x &&& (y ^^^ BitVec.ofInt 64 (-1)) = x ^^^ (x &&& y) := by
  have e : BitVec.ofInt 64 (-1) = BitVec.allOnes 64 := by decide
  rw [e, BitVec.xor_allOnes]
  apply BitVec.eq_of_getLsbD_eq
  intro i hi
  simp only [BitVec.getLsbD_and, BitVec.getLsbD_not, BitVec.getLsbD_xor, hi, decide_true, Bool.true_and]
  cases x.getLsbD i <;> cases y.getLsbD i <;> rfl
theorem kJ_xor (a b : Nat) : kJ a ^^^ kJ b = kJ ((a ^^^ b : Nat) : Int) := by
  rw [kJ_nat, kJ_nat, kJ_nat (a ^^^ b)]
  apply Int64.toBitVec_inj.mp
  show BitVec.ofNat 64 a ^^^ BitVec.ofNat 64 b = BitVec.ofNat 64 (a ^^^ b)
  exact BitVec.ofNat_xor.symm
theorem kJ_dif (a b : Nat) : kJ a &&& (kJ b ^^^ kJ (-1)) = kJ ((dif a b : Nat) : Int) := by
  unfold dif
  rw [← kJ_xor, ← kJ_and]
  apply Int64.toBitVec_inj.mp
  show BitVec.ofInt 64 a &&& (BitVec.ofInt 64 b ^^^ BitVec.ofInt 64 (-1)) = BitVec.ofInt 64 a ^^^ (BitVec.ofInt 64 a &&& BitVec.ofInt 64 b)
  exact bv_dif64 _ _
theorem u64_kJ (u : UInt64) : u.toInt64 = kJ (u.toNat : Int) := by
  apply Int64.toBitVec_inj.mp
  show u.toBitVec = BitVec.ofInt 64 (u.toNat : Int)
  rw [BitVec.ofInt_natCast]
  exact (BitVec.ofNat_toNat 64 u.toBitVec ▸ (by simp [UInt64.toNat]))
theorem kJ_u {n : Nat} (h : n < 18446744073709551616) : (kJ (n : Int)).toUInt64.toNat = n := by
  show (BitVec.ofInt 64 (n : Int)).toNat = n
  rw [BitVec.ofInt_natCast, BitVec.toNat_ofNat]
  exact Nat.mod_eq_of_lt h
theorem sh64 : ∀ k : Nat, k < 64 → ((kI (k : Int)).toInt64.toUInt64 &&& Int64.toUInt64 63).toNat % 64 = k := by decide +kernel
theorem kJ_ushr {n k : Nat} (h : n < 18446744073709551616) (hk : k < 64) : ((kJ (n : Int)).toUInt64 >>> ((kI (k : Int)).toInt64.toUInt64 &&& Int64.toUInt64 63)).toInt64 = kJ ((n / 2 ^ k : Nat) : Int) := by
  rw [u64_kJ, UInt64.toNat_shiftRight, sh64 k hk, kJ_u h, Nat.shiftRight_eq_div_pow]
theorem kJ_ubit {n k : Nat} (h : n < 18446744073709551616) (hk : k < 64) : ((kJ (n : Int)).toUInt64 >>> ((kI (k : Int)).toInt64.toUInt64 &&& Int64.toUInt64 63)).toInt64 &&& kJ 1 = kJ (if n.testBit k = true then 1 else 0) := by
  rw [kJ_ushr h hk, show kJ 1 = kJ ((1 : Nat) : Int) from rfl, kJ_and, Nat.and_one_is_mod, bit_dec]
  have h2 : n / 2 ^ k % 2 = 0 ∨ n / 2 ^ k % 2 = 1 := by omega
  rcases h2 with h2 | h2
  · rw [h2]; rfl
  · rw [h2]; rfl
theorem pe_fix {h : AH} (F : Fix h) {i : Nat} (hi : i < 4) : rvA h 44 i = 45 + 3 * i ∧ kdA h (45 + 3 * i) = 5 ∧ rvA h (45 + 3 * i) 3 = 46 + 3 * i ∧ rvA h (45 + 3 * i) 4 = 47 + 3 * i ∧ kdA h (46 + 3 * i) = 21 ∧ lnA h (46 + 3 * i) = 169 ∧ kdA h (47 + 3 * i) = 21 ∧ lnA h (47 + 3 * i) = 169 := by
  have e : i = 0 ∨ i = 1 ∨ i = 2 ∨ i = 3 := by omega
  rcases e with rfl | rfl | rfl | rfl
  · exact ⟨rv_44_0 F, kd_45 F, rv_45_3 F, rv_45_4 F, kd_46 F, ln_46 F, kd_47 F, ln_47 F⟩
  · exact ⟨rv_44_1 F, kd_48 F, rv_48_3 F, rv_48_4 F, kd_49 F, ln_49 F, kd_50 F, ln_50 F⟩
  · exact ⟨rv_44_2 F, kd_51 F, rv_51_3 F, rv_51_4 F, kd_52 F, ln_52 F, kd_53 F, ln_53 F⟩
  · exact ⟨rv_44_3 F, kd_54 F, rv_54_3 F, rv_54_4 F, kd_55 F, ln_55 F, kd_56 F, ln_56 F⟩
def pix (s : ST) (lf l : Nat) : Nat := (if usesF s 3 = true then lf * 13 else 0) + (if usesF s 6 = true ∨ usesF s 7 = true then (if l = 12 then 0 else l + 1) else 0)
theorem pix_lt {s : ST} {lf l : Nat} (h1 : lf ≤ 12) (h2 : l ≤ 12) : pix s lf l < 169 := by
  unfold pix
  by_cases q : l = 12
  · rw [if_pos q]; split <;> split <;> omega
  · rw [if_neg q]; split <;> split <;> omega
theorem up1_eq {α : Type} (f : Nat → α) (a : Nat) (x : α) : up1 f a x a = x := by unfold up1; rw [if_pos rfl]
theorem up1_ne {α : Type} (f : Nat → α) {a b : Nat} (x : α) (n : b ≠ a) : up1 f a x b = f b := by unfold up1; rw [if_neg n]
/-- what was asked is true -/
def PV (s : ST) (i hb : Nat) (ask hol : Nat → Nat) : Prop := ∀ k, k < 169 → ask k < 2 ^ 60 ∧ hol k < 2 ^ 60 ∧ ∀ b, ((hol k).testBit b = true → (ask k).testBit b = true) ∧ ((ask k).testBit b = true → ∀ lf l, pix s lf l = k → lf ≤ 12 → (l = 12 ∨ l < sN s) → (hol k).testBit b = holdF s i hb (b % 12) ((b / 12 : Nat) : Int) (lf : Int) l)
def PS (T : Nat → Nat) (s : ST) (p : Nat) (i : Nat) (hb : Nat) (ask : Nat → Nat) (hol : Nat → Nat) (h : AH) : Prop := (XS T s p h) ∧ (ivA h (45 + 3 * i) 0 = kI i) ∧ (ivA h (45 + 3 * i) 2 = kI hb) ∧ (rvA h (45 + 3 * i) 1 = p) ∧ (∀ k, k < 169 → jvA h (46 + 3 * i) k = kJ (ask k)) ∧ (∀ k, k < 169 → jvA h (47 + 3 * i) k = kJ (hol k)) ∧ (PV s i hb ask hol)
theorem PS.S {T : Nat → Nat} {s : ST} {p : Nat} {i : Nat} {hb : Nat} {ask : Nat → Nat} {hol : Nat → Nat} {h : AH} (C : PS T s p i hb ask hol h) : XS T s p h := C.1
theorem PS.i0 {T : Nat → Nat} {s : ST} {p : Nat} {i : Nat} {hb : Nat} {ask : Nat → Nat} {hol : Nat → Nat} {h : AH} (C : PS T s p i hb ask hol h) : ivA h (45 + 3 * i) 0 = kI i := C.2.1
theorem PS.i2 {T : Nat → Nat} {s : ST} {p : Nat} {i : Nat} {hb : Nat} {ask : Nat → Nat} {hol : Nat → Nat} {h : AH} (C : PS T s p i hb ask hol h) : ivA h (45 + 3 * i) 2 = kI hb := C.2.2.1
theorem PS.r {T : Nat → Nat} {s : ST} {p : Nat} {i : Nat} {hb : Nat} {ask : Nat → Nat} {hol : Nat → Nat} {h : AH} (C : PS T s p i hb ask hol h) : rvA h (45 + 3 * i) 1 = p := C.2.2.2.1
theorem PS.ja {T : Nat → Nat} {s : ST} {p : Nat} {i : Nat} {hb : Nat} {ask : Nat → Nat} {hol : Nat → Nat} {h : AH} (C : PS T s p i hb ask hol h) : ∀ k, k < 169 → jvA h (46 + 3 * i) k = kJ (ask k) := C.2.2.2.2.1
theorem PS.jh {T : Nat → Nat} {s : ST} {p : Nat} {i : Nat} {hb : Nat} {ask : Nat → Nat} {hol : Nat → Nat} {h : AH} (C : PS T s p i hb ask hol h) : ∀ k, k < 169 → jvA h (47 + 3 * i) k = kJ (hol k) := C.2.2.2.2.2.1
theorem PS.v {T : Nat → Nat} {s : ST} {p : Nat} {i : Nat} {hb : Nat} {ask : Nat → Nat} {hol : Nat → Nat} {h : AH} (C : PS T s p i hb ask hol h) : PV s i hb ask hol := C.2.2.2.2.2.2
abbrev FPe (T : Nat → Nat) (i : Nat) (h h' : AH) : Prop := Fr (fun a _ => T a = 1) (fun a _ => a = 46 + 3 * i ∨ a = 47 + 3 * i) h h'
theorem learn_g {T : Nat → Nat} (t : TF T) {s : ST} {p i hb : Nat} {ask hol : Nat → Nat} {h : AH} (F : Fix h) (hi : i < 4) (hb9 : hb ≤ 9) (P : PS T s p i hb ask hol h) {lf l un : Nat} (hl : l = 12 ∨ l < sN s) (h12 : lf ≤ 12) (hu : un < 2 ^ 60) (hun : ∀ b, un.testBit b = true → b % 12 < sN s ∧ (ask (pix s lf l)).testBit b = false) : GV 4 m_Pe_learn [.ref (45 + 3 * i), .int (kI (pix s lf l)), .long (kJ un), .int (kI lf), .int (kI (lx l))] h (fun h' => FPe T i h h' ∧ ∃ ask' hol', PS T s p i hb ask' hol' h' ∧ ask' (pix s lf l) = ask (pix s lf l) ||| un) := by
  have q := pe_fix F hi
  have n2 := P.S.wf.n12
  have pl := pix_lt (s := s) h12 (show l ≤ 12 by omega)
  have t60 : (2 : Nat) ^ 60 = 1152921504606846976 := by decide
  have pv := P.v
  generalize hpx : pix s lf l = k0 at pl hun ⊢
  have v0 := pv k0 pl
  refine GVo (s_Pe_learn_0 ?_)
  suffices H : ∀ k, k ≤ 60 → ∀ (h2 : AH) (x : Nat), FPe T i h h2 → (∀ k, k < 169 → jvA h2 (46 + 3 * i) k = kJ (ask k)) → (∀ k, k < 169 → k ≠ k0 → jvA h2 (47 + 3 * i) k = kJ (hol k)) → jvA h2 (47 + 3 * i) k0 = kJ x → x < 2 ^ 60 → (∀ b, x.testBit b = ((hol k0).testBit b || (decide (b < k) && un.testBit b && holdF s i hb (b % 12) ((b / 12 : Nat) : Int) (lf : Int) l))) → Safe 3 m_Pe_learn (3, [.ref (45 + 3 * i), .int (kI k0), .long (kJ un), unV, .int (kI lf), .int (kI (lx l)), .int (kI k)], [], h2) (fun v h' => Eqv v none ∧ FPe T i h h' ∧ ∃ ask' hol', PS T s p i hb ask' hol' h' ∧ ask' k0 = ask k0 ||| un) by
    exact H 0 (by omega) h (hol k0) (Fr_rfl _ _ _) P.ja (fun k hk _ => P.jh k hk) (P.jh k0 pl) v0.2.1 (fun b => by simp)
  refine down_ind 60 ?_ ?_
  · intro h2 x e2 A2 H2 X2 lx2 bx
    have F2 := e2.fix F
    have q2 := pe_fix F2 hi
    refine s_Pe_learn_3 ?_
    have ak := A2 k0 pl
    simp (disch := omega) only [q2.2.1, q2.2.2.1, q2.2.2.2.2.1, q2.2.2.2.2.2.1, ix_lit, inB_lit, decide_true, Bool.true_or, Bool.or_true, true_and, and_true, kI_add, kI_sub, kI_mul, tn_add, Int.toNat_natCast, Int.reduceToNat, kI_le, kI_lt, kI_inj, decide_eq_true_eq, Bool.not_eq_true', decide_eq_false_iff_not, not_true_eq_false, not_false_eq_true, Classical.not_not, Bool.false_eq_true, if_true, if_false, z0, bI_k0, bI_k1, isB_b, isB_0, isB_1, kI_long, kd_stI, ln_stI, rv_stI, Int.cast_ofNat_Int, Int.le_refl, ak, kJ_or]
    have e3 : FPe T i h (stJ h2 (46 + 3 * i) k0 (kJ ((ask k0 ||| un : Nat) : Int))) := e2.stJ (Or.inl rfl) _
    have t2 := t.two (a := 45 + 3 * i) (by omega) (by omega)
    refine ⟨rfl, e3, up1 ask k0 (ask k0 ||| un), up1 hol k0 x, ⟨P.S.fr e3 (fun a _ w => by omega), ?_, ?_, ?_, fun k hk => ?_, fun k hk => ?_, fun k hk => ?_⟩, up1_eq _ _ _⟩
    · rw [e3.2.2.2.2.2.1 _ _ (by omega)]; exact P.i0
    · rw [e3.2.2.2.2.2.1 _ _ (by omega)]; exact P.i2
    · rw [e3.2.2.1]; exact P.r
    · rw [jv_stJ]
      by_cases z : k = k0
      · rw [if_pos ⟨rfl, z⟩, z, up1_eq]
      · rw [if_neg (fun w => z w.2), up1_ne _ _ z]; exact A2 k hk
    · rw [jv_stJ, if_neg (by omega)]
      by_cases z : k = k0
      · rw [z, up1_eq]; exact X2
      · rw [up1_ne _ _ z]; exact H2 k hk z
    · by_cases z : k = k0
      · rw [z, up1_eq, up1_eq]
        refine ⟨Nat.or_lt_two_pow v0.1 hu, lx2, fun b => ⟨fun w => ?_, fun w lf' l' hp h1 h2' => ?_⟩⟩
        · rw [bx b] at w
          rw [Nat.testBit_or]
          rcases (Bool.or_eq_true _ _).mp w with w | w
          · rw [(v0.2.2 b).1 w]; rfl
          · simp only [Bool.and_eq_true] at w
            rw [w.1.2]
            simp
        · have cg : holdF s i hb (b % 12) ((b / 12 : Nat) : Int) (lf : Int) l = holdF s i hb (b % 12) ((b / 12 : Nat) : Int) (lf' : Int) l' := by
            have e : pix s lf l = pix s lf' l' := by rw [hpx, hp]
            unfold pix at e
            refine holdF_congr P.S.wf (fun _ => rfl) (fun u3 => ?_) (fun u6 => ?_)
            · rw [if_pos u3, if_pos u3] at e
              by_cases u6 : usesF s 6 = true ∨ usesF s 7 = true
              · rw [if_pos u6, if_pos u6] at e
                split at e <;> split at e <;> omega
              · rw [if_neg u6, if_neg u6] at e
                omega
            · rw [if_pos u6, if_pos u6] at e
              by_cases u3 : usesF s 3 = true
              · rw [if_pos u3, if_pos u3] at e
                split at e <;> split at e <;> omega
              · rw [if_neg u3, if_neg u3] at e
                split at e <;> split at e <;> omega
          rw [Nat.testBit_or] at w
          rw [bx b, ← cg]
          by_cases wa : (ask k0).testBit b = true
          · have := (v0.2.2 b).2 wa lf l hpx h12 hl
            rw [← this]
            have wu : un.testBit b = false := by
              cases zz : un.testBit b
              · rfl
              · rw [(hun b zz).2] at wa; cases wa
            rw [wu]
            simp
          · have wa' : (ask k0).testBit b = false := by simpa using wa
            rw [wa', Bool.false_or] at w
            have hn : (hol k0).testBit b = false := by
              cases zz : (hol k0).testBit b
              · rfl
              · rw [(v0.2.2 b).1 zz] at wa'; cases wa'
            have b60 : b < 60 := by
              by_cases zb : b < 60
              · exact zb
              · rw [bit_hi hu (by omega)] at w; cases w
            rw [hn, w]
            simp [b60]
      · rw [up1_ne _ _ z, up1_ne _ _ z]
        exact pv k hk
  · intro k hk' ih h2 x e2 A2 H2 X2 lx2 bx
    have F2 := e2.fix F
    have q2 := pe_fix F2 hi
    have z1 : ¬ (60 : Int) ≤ (k : Int) := by omega
    refine s_Pe_learn_3 ?_
    by_cases qb : un.testBit k = true
    · have hc := (hun k qb).1
      have i0 : ivA h2 (45 + 3 * i) 0 = kI i := by
        have t2 := t.two (a := 45 + 3 * i) (by omega) (by omega)
        rw [e2.2.2.2.2.2.1 _ _ (by omega)]; exact P.i0
      have i2 : ivA h2 (45 + 3 * i) 2 = kI hb := by
        have t2 := t.two (a := 45 + 3 * i) (by omega) (by omega)
        rw [e2.2.2.2.2.2.1 _ _ (by omega)]; exact P.i2
      have r2 : rvA h2 (45 + 3 * i) 1 = p := by rw [e2.2.2.1]; exact P.r
      have S2 := P.S.fr e2 (fun a _ w => by omega)
      have er : kI k - kI ((k / 12 : Nat) : Int) * kI 12 = kI ((k % 12 : Nat) : Int) := kI_rem' (b := 12) (by omega) (by omega) (by omega)
      have ed : kI k / kI 12 = kI ((k / 12 : Nat) : Int) := kI_ndiv (b := 12) (by omega) (by omega) (by omega)
      have eu : kJ (if un.testBit k = true then 1 else 0) = kJ 1 := by rw [if_pos qb]
      simp only [kJ_ubit (show un < 18446744073709551616 by omega) (show k < 64 by omega), eu, er, ed, q2.2.1, i0, i2, r2, S2.k, decide_true, true_and, cmp_eq, decide_eq_true_eq, Bool.not_eq_true', decide_eq_false_iff_not]
      rw [if_neg (by rw [kI_le (by omega) (by omega) (by omega) (by omega)]; exact z1), if_neg (by decide)]
      refine ⟨by decide, by decide, ?_⟩
      refine GI.use (Sh_holds_g S2 (by omega) (by omega) hc hl (by omega) (by omega) (by omega) (by omega)) (by omega) (fun h3 e3 => ?_)
      have e3' : FPe T i h h3 := e2.trans (e3.mono (fun _ _ w => w) (fun _ _ w => w.elim))
      have F3 := e3'.fix F
      have q3 := pe_fix F3 hi
      have j3 : ∀ a k, jvA h3 a k = jvA h2 a k := fun a k => e3.2.2.2.2.2.2 a k (fun w => w)
      have X3 : jvA h3 (47 + 3 * i) k0 = kJ x := by rw [j3]; exact X2
      have ih3 := ih h3
      simp only [kI_add]
      by_cases qh : holdF s i hb (k % 12) ((k / 12 : Nat) : Int) (lf : Int) l = true
      · rw [if_neg (by rw [bI_0]; exact fun w => w qh)]
        have es : kJ 1 <<< ((kI (k : Int)).toInt64 &&& 63) = kJ ((2 ^ k : Nat) : Int) := kJ_shl1 (by omega)
        simp (disch := omega) only [q3.2.1, q3.2.2.2.1, q3.2.2.2.2.2.2.1, q3.2.2.2.2.2.2.2, decide_true, true_and, inB_lit, ix_lit, Int.toNat_natCast, X3, es, kJ_or]
        have p2k : 2 ^ k < 2 ^ 60 := Nat.pow_lt_pow_right (by omega) hk'
        refine ih _ (x ||| 2 ^ k) (e3'.stJ (Or.inr rfl) _) (fun j hj => ?_) (fun j hj nj => ?_) ?_ (Nat.or_lt_two_pow lx2 p2k) (fun b => ?_)
        · rw [jv_stJ, if_neg (by omega), j3]; exact A2 j hj
        · rw [jv_stJ, if_neg (fun w => nj w.2), j3]; exact H2 j hj nj
        · rw [jv_stJ, if_pos ⟨rfl, rfl⟩]
        · rw [Nat.testBit_or, bx b, two_bit]
          by_cases zb : b = k
          · rw [zb, qb, qh]
            simp
          · have n1 : ¬ k = b := fun w => zb w.symm
            have n2' : (b < k) ↔ (b < k + 1) := by omega
            simp [n1, n2']
      · have qh' : holdF s i hb (k % 12) ((k / 12 : Nat) : Int) (lf : Int) l = false := by simpa using qh
        rw [if_pos (by rw [bI_0]; exact qh)]
        refine ih h3 x e3' (fun j hj => by rw [j3]; exact A2 j hj) (fun j hj nj => by rw [j3]; exact H2 j hj nj) X3 lx2 (fun b => ?_)
        rw [bx b]
        by_cases zb : b = k
        · rw [zb, qh']
          simp
        · have n2' : (b < k) ↔ (b < k + 1) := by omega
          simp [n2']
    · have qb' : un.testBit k = false := by simpa using qb
      have eu : kJ (if un.testBit k = true then 1 else 0) = kJ 0 := by rw [if_neg qb]
      simp only [kJ_ubit (show un < 18446744073709551616 by omega) (show k < 64 by omega), eu, cmp_eq, decide_eq_true_eq, kI_add]
      rw [if_neg (by rw [kI_le (by omega) (by omega) (by omega) (by omega)]; exact z1), if_pos trivial]
      refine ih h2 x e2 A2 H2 X2 lx2 (fun b => ?_)
      rw [bx b]
      by_cases zb : b = k
      · rw [zb, qb']
        simp
      · have n2' : (b < k) ↔ (b < k + 1) := by omega
        simp [n2']
theorem kJ_i32 (n : Nat) : (kJ (n : Int)).toInt32 = kI (n : Int) := Int64.toInt32_ofInt
/-- the five layers of bits laid together -/
theorem lay5 (x c : Nat) (hc : c < 12) : ((x ||| x / 2 ^ 12 ||| x / 2 ^ 24 ||| x / 2 ^ 36 ||| x / 2 ^ 48) &&& 4095).testBit c = (x.testBit c || x.testBit (c + 12) || x.testBit (c + 24) || x.testBit (c + 36) || x.testBit (c + 48)) := by
  rw [Nat.testBit_and, show (4095 : Nat) = 2 ^ 12 - 1 from rfl, Nat.testBit_two_pow_sub_one]
  simp only [Nat.testBit_or, Nat.testBit_div_two_pow]
  simp [hc]
theorem Pe_open_g {T : Nat → Nat} (t : TF T) {s : ST} {p i hb : Nat} {ask hol : Nat → Nat} {h : AH} (F : Fix h) (hi : i < 4) (hb9 : hb ≤ 9) (P : PS T s p i hb ask hol h) {m l : Nat} (hm : m < 2 ^ sN s) (hl : l = 12 ∨ l < sN s) : GI 5 m_Pe_open [.ref (45 + 3 * i), .long (kJ (nrF s m)), .int (kI ((sN s : Int) - pop m)), .int (kI (lx l))] h (kI (mvF s i hb m l)) (fun h' => FPe T i h h' ∧ ∃ ask' hol', PS T s p i hb ask' hol' h') := by
  have q := pe_fix F hi
  have n2 := P.S.wf.n12
  have t60 : (2 : Nat) ^ 60 = 1152921504606846976 := by decide
  have nl := nrF_lt s m
  have plm : pop m ≤ sN s := by
    unfold pop
    rw [show (12 : Nat) = sN s + (12 - sN s) by omega, cnt_add]
    · exact cnt_le _ _
    · intro k h1 _; exact bit_hi hm h1
  obtain ⟨lf, elf⟩ : ∃ lf : Nat, lf = sN s - pop m := ⟨_, rfl⟩
  have elf' : (sN s : Int) - pop m = (lf : Int) := by omega
  have h12 : lf ≤ 12 := by omega
  rw [elf']
  have pl := pix_lt (s := s) h12 (show l ≤ 12 by omega)
  refine GIo (s_Pe_open_0 ?_)
  have fin : ∀ (h2 : AH) (ask' hol' : Nat → Nat), FPe T i h h2 → PS T s p i hb ask' hol' h2 → (∀ b, (nrF s m).testBit b = true → (ask' (pix s lf l)).testBit b = true) → Safe 4 m_Pe_open (89, [.ref (45 + 3 * i), .long (kJ (nrF s m)), unV, unV, unV, .int (kI (pix s lf l)), unV, unV, unV, unV], [], h2) (fun x h' => Eqv x (some (.int (kI (mvF s i hb m l)))) ∧ FPe T i h h' ∧ ∃ ask' hol', PS T s p i hb ask' hol' h') := by
    intro h2 ask' hol' e2 P2 al
    have F2 := e2.fix F
    have q2 := pe_fix F2 hi
    have jh := P2.jh _ pl
    have v2 := P2.v _ pl
    have hx : nrF s m &&& hol' (pix s lf l) < 2 ^ 60 := and_lt nl
    refine s_Pe_open_89 ?_
    have u12 := kJ_ushr (n := nrF s m &&& hol' (pix s lf l)) (k := 12) (by omega) (by omega)
    have u24 := kJ_ushr (n := nrF s m &&& hol' (pix s lf l)) (k := 24) (by omega) (by omega)
    have u36 := kJ_ushr (n := nrF s m &&& hol' (pix s lf l)) (k := 36) (by omega) (by omega)
    have u48 := kJ_ushr (n := nrF s m &&& hol' (pix s lf l)) (k := 48) (by omega) (by omega)
    simp only [Int.cast_ofNat_Int] at u12 u24 u36 u48
    have e4095 : kI 4095 = kI ((4095 : Nat) : Int) := rfl
    simp (disch := omega) only [q2.2.1, q2.2.2.2.1, q2.2.2.2.2.2.2.1, q2.2.2.2.2.2.2.2, decide_true, true_and, inB_lit, ix_lit, Int.toNat_natCast, jh, kJ_and, u12, u24, u36, u48, kJ_or, kJ_i32, e4095, kI_and]
    refine ⟨?_, e2, ask', hol', P2⟩
    show some (Value.int _) = some (Value.int _)
    congr 3
    congr 1
    refine bit_ext (fun c => ?_)
    by_cases hc : c < 12
    · rw [lay5 _ c hc, mvF_bit, mayF_N]
      simp only [Nat.testBit_and]
      have nb : ∀ k, k < 5 → (nrF s m).testBit (c + 12 * k) = (decide (c < sN s) && !m.testBit c && (k == (if usesF s 2 = true then nearF s c m else 0))) := by
        intro k hk
        unfold nrF
        rw [bitsB_bit]
        unfold nrB
        rw [show (c + 12 * k) % 12 = c by omega, show (c + 12 * k) / 12 = k by omega]
        have : c + 12 * k < 60 := by omega
        simp [this]
      have n0 := nb 0 (by omega)
      have n1 := nb 1 (by omega)
      have n2' := nb 2 (by omega)
      have n3 := nb 3 (by omega)
      have n4 := nb 4 (by omega)
      rw [show c + 12 * 0 = c by omega] at n0
      rw [show c + 12 * 1 = c + 12 by omega] at n1
      rw [show c + 12 * 2 = c + 24 by omega] at n2'
      rw [show c + 12 * 3 = c + 36 by omega] at n3
      rw [show c + 12 * 4 = c + 48 by omega] at n4
      by_cases hcn : c < sN s
      · by_cases hmb : m.testBit c = true
        · rw [n0, n1, n2', n3, n4, hmb]
          simp
        · have hmb' : m.testBit c = false := by simpa using hmb
          have nle := nearF_le P.S.wf c m
          obtain ⟨u, eu⟩ : ∃ u, u = (if usesF s 2 = true then nearF s c m else 0) := ⟨_, rfl⟩
          have ul : u ≤ 4 := by rw [eu]; split <;> omega
          have hbit : (nrF s m).testBit (c + 12 * u) = true := by
            rw [nb u (by omega), ← eu, hmb']
            simp [hcn]
          have hv := (v2.2.2 (c + 12 * u)).2 (al _ hbit) lf l rfl h12 hl
          rw [show (c + 12 * u) % 12 = c by omega, show (c + 12 * u) / 12 = u by omega] at hv
          have cg : holdF s i hb c (u : Int) (lf : Int) l = holdF s i hb c (nearF s c m : Int) ((sN s : Int) - pop m) l := holdF_congr P.S.wf (fun w => by rw [eu, if_pos w]) (fun _ => elf'.symm) (fun _ => rfl)
          rw [cg] at hv
          rw [n0, n1, n2', n3, n4, ← eu, hmb', ← hv]
          have e : u = 0 ∨ u = 1 ∨ u = 2 ∨ u = 3 ∨ u = 4 := by omega
          rcases e with rfl | rfl | rfl | rfl | rfl <;> simp [hcn]
      · rw [n0, n1, n2', n3, n4]
        simp [hcn]
    · rw [mvF_bit]
      have e1 : decide (c < sN s) = false := by simp; omega
      rw [e1, Nat.testBit_and, show (4095 : Nat) = 2 ^ 12 - 1 from rfl, Nat.testBit_two_pow_sub_one]
      simp [hc]
  have s36 : ∀ a b : Nat, a + b = pix s lf l → Safe 4 m_Pe_open (36, [.ref (45 + 3 * i), .long (kJ (nrF s m)), unV, .int (kI lf), .int (kI (lx l)), unV, unV, unV, unV, unV], [.int (kI b), .int (kI a)], h) (fun x h' => Eqv x (some (.int (kI (mvF s i hb m l)))) ∧ FPe T i h h' ∧ ∃ ask' hol', PS T s p i hb ask' hol' h') := by
    intro a b eab
    have ja := P.ja _ pl
    have eab' : (a : Int) + (b : Int) = (pix s lf l : Int) := by omega
    have z1 : ¬ (pix s lf l : Int) < 0 := by omega
    have z2 : (pix s lf l : Int) < 169 := by omega
    refine s_Pe_open_36 ?_
    simp (disch := omega) only [q.2.1, q.2.2.1, q.2.2.2.2.1, q.2.2.2.2.2.1, isA, Nat.reduceLeDiff, Bool.and_true, ix_lit, inB_lit, decide_true, Bool.true_or, Bool.or_true, true_and, and_true, kI_add, kI_sub, kI_mul, tn_add, Int.toNat_natCast, Int.reduceToNat, kI_le, kI_lt, kI_inj, decide_eq_true_eq, Bool.not_eq_true', decide_eq_false_iff_not, not_true_eq_false, not_false_eq_true, Classical.not_not, Bool.false_eq_true, if_true, if_false, z0, bI_k0, bI_k1, isB_b, isB_0, isB_1, kI_long, kd_stI, ln_stI, rv_stI, Int.cast_ofNat_Int, eab', z1, z2, ja, kJ_dif, cmp_eq0, zJ0]
    have dl : dif (nrF s m) (ask (pix s lf l)) < 2 ^ 60 := dif_lt nl
    by_cases qd : dif (nrF s m) (ask (pix s lf l)) = 0
    · rw [if_pos (by rw [qd]; rfl)]
      refine fin h ask hol (Fr_rfl _ _ _) P (fun b hb' => ?_)
      have := dif_bit (nrF s m) (ask (pix s lf l)) b
      rw [qd, hb', Nat.zero_testBit] at this
      cases zz : (ask (pix s lf l)).testBit b
      · rw [zz] at this; cases this
      · rfl
    · rw [if_neg (by rw [kJ_inj (by omega) (by omega) (by omega) (by omega)]; omega)]
      refine GV.use (learn_g t F hi hb9 P hl h12 dl (fun b hb' => ?_)) (by omega) (fun h2 e2 => ?_)
      · rw [dif_bit] at hb'
        simp only [Bool.and_eq_true, Bool.not_eq_true'] at hb'
        refine ⟨?_, hb'.2⟩
        have := hb'.1
        unfold nrF at this
        rw [bitsB_bit] at this
        unfold nrB at this
        simp only [Bool.and_eq_true, decide_eq_true_eq] at this
        exact this.2.1.1
      · obtain ⟨e2, ask', hol', P2, ea⟩ := e2
        refine fin h2 ask' hol' e2 P2 (fun b hb' => ?_)
        rw [ea, Nat.testBit_or, dif_bit, hb']
        cases (ask (pix s lf l)).testBit b <;> rfl
  have s18 : ∀ a : Nat, a = (if usesF s 3 = true then lf * 13 else 0) → Safe 4 m_Pe_open (18, [.ref (45 + 3 * i), .long (kJ (nrF s m)), unV, .int (kI lf), .int (kI (lx l)), unV, unV, unV, unV, unV], [.int (kI a)], h) (fun x h' => Eqv x (some (.int (kI (mvF s i hb m l)))) ∧ FPe T i h h' ∧ ∃ ask' hol', PS T s p i hb ask' hol' h') := by
    intro a ea
    refine s_Pe_open_18 ?_
    simp (disch := omega) only [q.2.1, P.r, P.S.k, P.S.i8, ix_lit, inB_lit, decide_true, Bool.true_or, Bool.or_true, true_and, and_true, kI_add, kI_sub, kI_mul, tn_add, Int.toNat_natCast, Int.reduceToNat, kI_le, kI_lt, kI_inj, decide_eq_true_eq, Bool.not_eq_true', decide_eq_false_iff_not, not_true_eq_false, not_false_eq_true, Classical.not_not, Bool.false_eq_true, if_true, if_false, z0, bI_k0, bI_k1, isB_b, isB_0, isB_1, kI_long, kd_stI, ln_stI, rv_stI]
    by_cases u6 : usesF s 6 = true ∨ usesF s 7 = true
    · rw [if_neg (fun w => w u6)]
      have lb : -1 ≤ lx l ∧ lx l ≤ 12 := by unfold lx; split <;> omega
      have el : lx l + 1 = ((if l = 12 then 0 else l + 1 : Nat) : Int) := by unfold lx; split <;> omega
      rw [el]
      refine s36 a _ ?_
      unfold pix
      rw [← ea, if_pos u6]
    · rw [if_pos u6]
      refine s36 a 0 ?_
      unfold pix
      rw [← ea, if_neg u6]
  simp (disch := omega) only [q.2.1, P.r, P.S.k, P.S.i7, ix_lit, inB_lit, decide_true, Bool.true_or, Bool.or_true, true_and, and_true, kI_add, kI_sub, kI_mul, tn_add, Int.toNat_natCast, Int.reduceToNat, kI_le, kI_lt, kI_inj, decide_eq_true_eq, Bool.not_eq_true', decide_eq_false_iff_not, not_true_eq_false, not_false_eq_true, Classical.not_not, Bool.false_eq_true, if_true, if_false, z0, bI_k0, bI_k1, isB_b, isB_0, isB_1, kI_long, kd_stI, ln_stI, rv_stI]
  by_cases u3 : usesF s 3 = true
  · rw [if_neg (fun w => w u3)]
    have := s18 (lf * 13) (by rw [if_pos u3])
    exact this
  · rw [if_pos u3]
    exact s18 0 (by rw [if_neg u3])
