/-! hand lines of the reference -/
def hbF (tp : Nat → Nat) (n H : Nat) (cs : List Nat) : Nat → Nat → LG → LR
  | 0, a, _ => .error (2, a)
  | f + 1, a, g => if tKd tp n a = 3 then (match tkF tp n 0 9 (nxA tp n a) with
    | .error e => .error e
    | .ok q => hbF tp n H cs f q.1 (upG g (25 + H) q.2)) else .ok (a, upG g 3 (H + 1), cs)
/-- a hand line: one more hand, and its habit -/
def hanF (tp : Nat → Nat) (n a : Nat) (g : LG) (cs : List Nat) : LR := if g 3 = 4 then .error (4, a) else hbF tp n (g 3).toNat cs (n + 1) (nxA tp n a) g
theorem M_readHand_29d {h : AH} (B : MBd h) {d : Nat} {k : Int32} {Q : Option Value → AH → Prop} (q : Q none h) : Safe d m_M_readHand (29, [.ref 88, .int k], [], h) Q := by
  refine s_M_readHand_29 ?_
  rw [kd_88 B.1, if_pos B.nz.1]
  refine ⟨rfl, ?_⟩
  refine s_M_readHand_63 ?_
  rw [kd_88 B.1, if_pos B.nz.1]
  exact ⟨rfl, q⟩
theorem MBd.st {h : AH} (B : MBd h) (k : Nat) (x : Int32) : MBd (stI h 92 k x) ∧ FLn h (stI h 92 k x) ∧ ∀ j, ivA (stI h 92 k x) 88 j = ivA h 88 j := by
  have f : FLn h (stI h 92 k x) := (Fr_rfl (fun x k => (x = 88 ∧ (k = 6 ∨ k = 7 ∨ k = 9 ∨ k = 10 ∨ k = 11 ∨ k = 12 ∨ k = 15)) ∨ x = 92) JM h).stI (Or.inr rfl) _
  have i88 : ∀ j, ivA (stI h 92 k x) 88 j = ivA h 88 j := fun j => by rw [iv_stI, if_neg (by omega)]
  obtain ⟨F, w, y1, y2, y3⟩ := B
  exact ⟨⟨f.fix F, w, by rw [i88]; exact y1, y2, y3⟩, f, i88⟩
theorem M_readHand_g {tp : Nat → Nat} {n law a : Nat} {g : LG} {cs : List Nat} {h : AH} (M : ML tp n law a g cs h) (hl : law ≤ 4294967295) {H : Nat} (gH : g 3 = H) (h4 : H ≤ 4) (ka : tKd tp n a = 2) : GV 8 m_M_readHand [.ref 88] h (MPl tp n (hanF tp n a g cs) h) := by
  have S := M.1
  have F := S.F
  have b3 : inB (kI 3) 1001 = true := inB_lit (by omega) (by omega) (by omega)
  have x3 : ix (kI 3) = 3 := ix_kI (n := 3) (by omega)
  have e25 : ix (kI 25 + kI (H : Int)) = 25 + H := by
    rw [kI_add, show (25 : Int) + H = ((25 + H : Nat) : Int) by omega]
    exact ix_kI (by omega)
  have b25 : inB (kI 25 + kI (H : Int)) 1001 = true := by
    rw [kI_add]
    exact inB_lit (by omega) (by omega) (by omega)
  refine GVo (s_M_readHand_0 ?_)
  rw [kd_88 F, rv_88_4 F, kd_92 F, ln_92 F, b3, x3, M.2 3 (by omega), gH]
  refine ⟨rfl, rfl, rfl, ?_⟩
  unfold hanF
  rw [gH]
  by_cases q : H = 4
  · rw [if_neg (by rw [q]; decide), if_pos (by omega)]
    refine ⟨rfl, ?_⟩
    refine GV.use (M_fails_g S (k := 4) (by omega) (by omega)) (by omega) (fun h1 e1 => ?_)
    obtain ⟨e1, B, e2, e3⟩ := e1
    have fe : fkF tp n a 4 = 4 := by unfold fkF; rw [if_neg (by omega)]
    rw [fe] at e2
    refine s_M_readHand_17 ?_
    rw [kd_88 B.1, if_neg B.nz.2]
    exact ⟨rfl, rfl, ln_of e1, B, e2, e3⟩
  · rw [if_pos (by rw [Bool.not_eq_true', decide_eq_false_iff_not, kI_inj (by omega) (by omega) (by omega) (by omega)]; omega), if_neg (by omega), Int.toNat_natCast]
    refine s_M_readHand_17 ?_
    rw [kd_88 F, S.i11, if_pos (by decide)]
    refine ⟨rfl, rfl, ?_⟩
    refine GV.use (M_nextS S) (by omega) (fun h1 e1 => ?_)
    have M1 := M.rd e1.1 e1.2
    suffices L : ∀ f b g' h3, n - b + 1 ≤ f → FLn h h3 → ML tp n law b g' cs h3 → g' 3 = H → Safe 7 m_M_readHand (29, [.ref 88, .int (kI (H : Nat))], [], h3) (fun v h' => Eqv v none ∧ MPl tp n (hbF tp n H cs f b g') h h') by
      exact L (n + 1) _ g h1 (by omega) (ln_of e1.1) M1 gH
    intro f
    induction f with
    | zero => intro b g' h3 hf; omega
    | succ f ih =>
      intro b g' h3 hf f3 M3 g3
      have S3 := M3.1
      have F3 := S3.F
      refine s_M_readHand_29 ?_
      rw [kd_88 F3, S3.i11, if_neg (by decide)]
      refine ⟨rfl, rfl, ?_⟩
      by_cases q3 : tKd tp n b = 3
      · have bn := kd_n (tp := tp) (n := n) (a := b) (by omega)
        have nb := nxA_b (tp := tp) bn
        refine GI.use (M_eats_y S3 (k := 3) q3) (by omega) (fun h4 e4 => ?_)
        have M4 := M3.rd e4.1 e4.2
        have F4 := M4.1.F
        rw [if_neg (by decide), kd_88 F4, rv_88_4 F4]
        refine ⟨rfl, rfl, ?_⟩
        cases ht : tkF tp n 0 9 (nxA tp n b) with
        | error e =>
          have eP : hbF tp n H cs (f + 1) b g' = .error e := by rw [hbF, if_pos q3, ht]
          rw [eP]
          obtain ⟨x, hx⟩ := M_takes_n M4.1 (lo := 0) (hi := 9) (by omega) (by omega) ht
          refine GI.use hx (by omega) (fun h5 e5 => ?_)
          have B := e5.2.1
          rw [kd_92 B.1, ln_92 B.1, e25, b25]
          obtain ⟨B6, f6, i6⟩ := B.st (25 + H) x
          exact ⟨rfl, rfl, M_readHand_29d B6 ⟨rfl, f3.trans ((ln_of e4.1).trans ((ln_of e5.1).trans f6)), B6, by rw [i6]; exact e5.2.2.1, by rw [i6]; exact e5.2.2.2⟩⟩
        | ok p =>
          have eP : hbF tp n H cs (f + 1) b g' = hbF tp n H cs f p.1 (upG g' (25 + H) p.2) := by rw [hbF, if_pos q3, ht]
          rw [eP]
          obtain ⟨hx, u1, u2, u3, u4, u5⟩ := M_takes_y M4.1 (lo := 0) (hi := 9) (by omega) (by omega) (b := p.1) (v := p.2) ht
          refine GI.use hx (by omega) (fun h5 e5 => ?_)
          have M5 := M4.rd e5.1 e5.2
          have F5 := M5.1.F
          rw [kd_92 F5, ln_92 F5, e25, b25]
          have M6 := M5.st (k := 25 + H) (by omega) (p.2 : Nat)
          exact ⟨rfl, rfl, ih p.1 _ _ (by omega) (f3.trans ((ln_of e4.1).trans ((ln_of e5.1).trans M6.2))) M6.1 (by unfold upG; rw [if_neg (by omega)]; exact g3)⟩
      · have eP : hbF tp n H cs (f + 1) b g' = .ok (b, upG g' 3 (H + 1), cs) := by rw [hbF, if_neg q3]
        rw [eP]
        refine (M_eats_n S3 (k := 3) (by omega) q3 (by omega)).mpr ?_
        rw [if_pos (by decide)]
        refine s_M_readHand_63 ?_
        rw [kd_88 F3, S3.i11, if_neg (by decide), rv_88_4 F3, kd_92 F3, ln_92 F3, b3, x3, M3.2 3 (by omega), g3, kI_add]
        have M6 := M3.st (k := 3) (by omega) ((H : Int) + 1)
        exact ⟨rfl, rfl, rfl, rfl, rfl, rfl, rfl, f3.trans M6.2, law, hl, M6.1⟩
