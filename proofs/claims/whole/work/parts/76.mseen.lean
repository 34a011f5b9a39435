/-! seen, on the reference's side -/
theorem dHab_self (y : DY) (a : Nat) : dHab y a (yB y a) = y := by
  have e : (fun k => if k = a then yB y a else yB y k) = yB y := by
    funext k
    by_cases q : k = a
    · rw [if_pos q, q]
    · rw [if_neg q]
  show (yD y, yL y, yX y, fun k => if k = a then yB y a else yB y k) = y
  rw [e]
  rfl
theorem dHab_dHab (y : DY) (a n m : Nat) : dHab (dHab y a n) a m = dHab y a m := by
  have e : (fun k => if k = a then m else yB (dHab y a n) k) = (fun k => if k = a then m else yB y k) := by
    funext k
    by_cases q : k = a
    · rw [if_pos q, if_pos q]
    · rw [if_neg q, if_neg q]
      show (if k = a then n else yB y k) = yB y k
      rw [if_neg q]
  show (yD y, yL y, yX y, fun k => if k = a then m else yB (dHab y a n) k) = (yD y, yL y, yX y, fun k => if k = a then m else yB y k)
  rw [e]
theorem yB_dHab (y : DY) (a n : Nat) : yB (dHab y a n) a = n := by
  show (if a = a then n else yB y a) = n
  rw [if_pos rfl]
theorem MT.n {t : Nat} {so : Int} {n : Nat} {f : Nat → Int} {h : AH} (X : MT t so n f h) (q : so ≠ -1) : ivA h 104 t = kI n := (X.2 q).1
theorem MT.f {t : Nat} {so : Int} {n : Nat} {f : Nat → Int} {h : AH} (X : MT t so n f h) (q : so ≠ -1) {i : Nat} (hi : i < n) : jvA h 105 (40 * t + i) = kJ (f i) := (X.2 q).2 i hi
theorem MTs.im {w : TW} {h h' : AH} (C : MTs w h) (e : Fr IM JM h h') : MTs w h' := C.md (e.mono (fun a k w => w.d) (fun _ _ w => w))
theorem MTs.id {w : TW} {h h' : AH} (C : MTs w h) (e : Fr ID JM h h') : MTs w h' := C.md (e.mono (fun a k w => w.d) (fun _ _ w => w))
theorem M_noSeen_c {s : ST} {y : DY} {h : AH} (C : MC s y h) {w : TW} (X : MTs w h) (W : WTs w) {t : Int} (t1 : -2147483648 ≤ t) (t2 : t ≤ 2147483647) {d : Nat} (hd : 4 ≤ d) {K : Int32 → AH → Prop} : CallI d m_M_noSeen [.ref 88, .int (kI t)] h K ↔ K (kI (if 0 ≤ t ∧ t < 4 then seR s y (w.1 t.toNat) (w.2.1 t.toNat) (w.2.2 t.toNat) else -2)) h := by
  have F := C.fix
  have so := X.so W
  have n2 := C.wf.n12
  refine Ret.I (d := 4) (ret_of (s_M_noSeen_0 ?_)) hd
  by_cases q : 0 ≤ t ∧ t < 4
  · rw [if_pos q]
    have p1 : (0 ≤ t ∧ t < 4) = True := eq_true q
    obtain ⟨t, rfl⟩ := Int.eq_ofNat_of_zero_le q.1
    have ht : t < 4 := by omega
    have Wt := W t ht
    have Xt := X t ht
    have n40 := Wt.2.2.1
    unfold seR
    simp only [Int.toNat_natCast]
    by_cases q3 : w.1 t = -1
    · rw [if_pos q3]
      simp (disch := omega) only [kd_88 F, ix_lit, inB_lit, decide_true, Bool.true_or, Bool.or_true, true_and, and_true, kI_add, kI_sub, kI_mul, tn_add, Int.toNat_natCast, Int.reduceToNat, kI_le, kI_lt, kI_inj, decide_eq_true_eq, Bool.not_eq_true', decide_eq_false_iff_not, not_true_eq_false, not_false_eq_true, Classical.not_not, Bool.false_eq_true, if_true, if_false, z0, bI_k0, bI_k1, isB_b, isB_0, isB_1, kI_long, kd_stI, ln_stI, rv_stI, M_noTray_c (a := (t : Int)) (show 2 ≤ 3 by omega) F (by omega) (by omega) so, p1, q3, Int.reduceEq]
    · rw [if_neg q3]
      have xn := Xt.n q3
      by_cases a2 : 1 ≤ w.2.1 t ∧ w.2.1 t ≤ 12
      · rw [if_pos a2]
        have p2 : (1 ≤ (w.2.1 t : Int) ∧ (w.2.1 t : Int) ≤ 12) = True := eq_true (by omega)
        simp (disch := omega) only [kd_88 F, rv_88_1 F, kd_89 F, ln_89 F, rv_88_29 F, kd_104 F, ln_104 F, ix_lit, inB_lit, decide_true, Bool.true_or, Bool.or_true, true_and, and_true, kI_add, kI_sub, kI_mul, tn_add, Int.toNat_natCast, Int.reduceToNat, kI_le, kI_lt, kI_inj, decide_eq_true_eq, Bool.not_eq_true', decide_eq_false_iff_not, not_true_eq_false, not_false_eq_true, Classical.not_not, Bool.false_eq_true, if_true, if_false, z0, bI_k0, bI_k1, isB_b, isB_0, isB_1, kI_long, kd_stI, ln_stI, rv_stI, M_noTray_c (a := (t : Int)) (show 2 ≤ 3 by omega) F (by omega) (by omega) so, p1, q3, xn, M_within_c, p2, C.i22]
        suffices H : ∀ k, k ≤ w.2.1 t → (∀ i, i < k → okB s (w.2.2 t) (yD y) i = true) → Safe 3 m_M_noSeen (43, [.ref 88, .int (kI t), unV, .int (kI (pD (w.2.2 t) (yD y) k : Nat)), .int (kI k), unV, unV], [], h) (fun v k => v = some (.int (kI (if allB (okB s (w.2.2 t) (yD y)) (w.2.1 t) = true then 0 else -3))) ∧ k = h) by
          exact H 0 (by omega) (fun i hi => by omega)
        refine down_ind (w.2.1 t) ?_ ?_
        · intro H
          refine s_M_noSeen_43 ?_
          simp (disch := omega) only [kd_88 F, rv_88_29 F, kd_104 F, ln_104 F, xn, ix_lit, inB_lit, decide_true, Bool.true_or, Bool.or_true, true_and, and_true, kI_add, kI_sub, kI_mul, tn_add, Int.toNat_natCast, Int.reduceToNat, kI_le, kI_lt, kI_inj, decide_eq_true_eq, Bool.not_eq_true', decide_eq_false_iff_not, not_true_eq_false, not_false_eq_true, Classical.not_not, Bool.false_eq_true, if_true, if_false, z0, bI_k0, bI_k1, isB_b, isB_0, isB_1, kI_long, kd_stI, ln_stI, rv_stI, Int.le_refl, allB_iff.mpr H]
        · intro k hk ih H
          have fb := Wt.2.2.2 k
          have hm : pD (w.2.2 t) (yD y) k < 4096 := Nat.lt_of_lt_of_le (pD_lt C.wy.1 H) (Nat.pow_le_pow_right (n := 2) (by omega) n2)
          have z1 : ¬ (w.2.1 t : Int) ≤ (k : Int) := by omega
          have ei2 : ix (kI (40 * (t : Int) + k)) = 40 * t + k := by rw [ix_lit (by omega) (by omega)]; omega
          have eb2 : inB (kI (40 * (t : Int) + k)) 160 = true := inB_lit (by omega) (by omega) (by omega)
          have xf := Xt.f q3 hk
          refine s_M_noSeen_43 ?_
          by_cases b2 : 0 ≤ w.2.2 t k ∧ w.2.2 t k < sN s
          · have p3 : (0 ≤ w.2.2 t k ∧ w.2.2 t k < sN s) = True := eq_true b2
            have ej : (kJ (w.2.2 t k)).toInt32 = kI ((w.2.2 t k).toNat : Int) := by rw [kJ_int (by omega) (by omega)]; congr 1; omega
            by_cases b3 : (pD (w.2.2 t) (yD y) k).testBit (w.2.2 t k).toNat = true
            · simp (disch := omega) only [kd_88 F, rv_88_29 F, kd_104 F, ln_104 F, rv_88_30 F, kd_105 F, ln_105 F, xn, ix_lit, inB_lit, decide_true, Bool.true_or, Bool.or_true, true_and, and_true, kI_add, kI_sub, kI_mul, tn_add, Int.toNat_natCast, Int.reduceToNat, kI_le, kI_lt, kI_inj, decide_eq_true_eq, Bool.not_eq_true', decide_eq_false_iff_not, not_true_eq_false, not_false_eq_true, Classical.not_not, Bool.false_eq_true, if_true, if_false, z0, bI_k0, bI_k1, isB_b, isB_0, isB_1, kI_long, kd_stI, ln_stI, rv_stI, z1, ei2, eb2, xf, M_isCell_c C, p3, ej, M_isIn_c, b3]
              rw [allB_no hk (by unfold okB; rw [b3]; simp)]
              (all_goals first | exact ⟨rfl, rfl⟩ | exact ⟨rfl, trivial⟩ | rfl | trivial)
            · have b3' : (pD (w.2.2 t) (yD y) k).testBit (w.2.2 t k).toNat = false := by simpa using b3
              have := ih (fun i hi => by
                by_cases z : i = k
                · rw [z]; exact okB_iff.mpr ⟨b2.1, b2.2, b3'⟩
                · exact H i (by omega))
              simp (disch := omega) only [kd_88 F, rv_88_29 F, kd_104 F, ln_104 F, rv_88_30 F, kd_105 F, ln_105 F, xn, ix_lit, inB_lit, decide_true, Bool.true_or, Bool.or_true, true_and, and_true, kI_add, kI_sub, kI_mul, tn_add, Int.toNat_natCast, Int.reduceToNat, kI_le, kI_lt, kI_inj, decide_eq_true_eq, Bool.not_eq_true', decide_eq_false_iff_not, not_true_eq_false, not_false_eq_true, Classical.not_not, Bool.false_eq_true, if_true, if_false, z0, bI_k0, bI_k1, isB_b, isB_0, isB_1, kI_long, kd_stI, ln_stI, rv_stI, z1, ei2, eb2, xf, M_isCell_c C, p3, ej, M_isIn_c, b3', kI_shl1, kI_or]
              exact this
          · simp (disch := omega) only [kd_88 F, rv_88_29 F, kd_104 F, ln_104 F, rv_88_30 F, kd_105 F, ln_105 F, xn, ix_lit, inB_lit, decide_true, Bool.true_or, Bool.or_true, true_and, and_true, kI_add, kI_sub, kI_mul, tn_add, Int.toNat_natCast, Int.reduceToNat, kI_le, kI_lt, kI_inj, decide_eq_true_eq, Bool.not_eq_true', decide_eq_false_iff_not, not_true_eq_false, not_false_eq_true, Classical.not_not, Bool.false_eq_true, if_true, if_false, z0, bI_k0, bI_k1, isB_b, isB_0, isB_1, kI_long, kd_stI, ln_stI, rv_stI, z1, ei2, eb2, xf, M_isCell_c C, eq_false b2]
            rw [allB_no hk (by unfold okB; simp; omega)]
            (all_goals first | exact ⟨rfl, rfl⟩ | exact ⟨rfl, trivial⟩ | rfl | trivial)
      · rw [if_neg a2]
        have p2 : (1 ≤ (w.2.1 t : Int) ∧ (w.2.1 t : Int) ≤ 12) = False := eq_false (by omega)
        simp (disch := omega) only [kd_88 F, rv_88_29 F, kd_104 F, ln_104 F, ix_lit, inB_lit, decide_true, Bool.true_or, Bool.or_true, true_and, and_true, kI_add, kI_sub, kI_mul, tn_add, Int.toNat_natCast, Int.reduceToNat, kI_le, kI_lt, kI_inj, decide_eq_true_eq, Bool.not_eq_true', decide_eq_false_iff_not, not_true_eq_false, not_false_eq_true, Classical.not_not, Bool.false_eq_true, if_true, if_false, z0, bI_k0, bI_k1, isB_b, isB_0, isB_1, kI_long, kd_stI, ln_stI, rv_stI, M_noTray_c (a := (t : Int)) (show 2 ≤ 3 by omega) F (by omega) (by omega) so, p1, q3, xn, M_within_c, p2]
  · rw [if_neg q]
    simp (disch := omega) only [kd_88 F, ix_lit, inB_lit, decide_true, Bool.true_or, Bool.or_true, true_and, and_true, kI_add, kI_sub, kI_mul, tn_add, Int.toNat_natCast, Int.reduceToNat, kI_le, kI_lt, kI_inj, decide_eq_true_eq, Bool.not_eq_true', decide_eq_false_iff_not, not_true_eq_false, not_false_eq_true, Classical.not_not, Bool.false_eq_true, if_true, if_false, z0, bI_k0, bI_k1, isB_b, isB_0, isB_1, kI_long, kd_stI, ln_stI, rv_stI, M_noTray_c (show 2 ≤ 3 by omega) F t1 t2 so, eq_false q, Int.reduceEq]
theorem M_noSeenBy_c {s : ST} {y : DY} {h : AH} (C : MC s y h) {w : TW} (X : MTs w h) (W : WTs w) {t a : Int} (t1 : -2147483648 ≤ t) (t2 : t ≤ 2147483647) (a1 : -2147483648 ≤ a) (a2 : a ≤ 2147483647) {d : Nat} (hd : 5 ≤ d) {K : Int32 → AH → Prop} : CallI d m_M_noSeenBy [.ref 88, .int (kI t), .int (kI a)] h K ↔ K (kI (if (0 ≤ t ∧ t < 4) ∧ (0 ≤ a ∧ a < sH s) then seR s y (w.1 t.toNat) (w.2.1 t.toNat) (w.2.2 t.toNat) else -2)) h := by
  have F := C.fix
  refine Ret.I (d := 5) (ret_of (s_M_noSeenBy_0 ?_)) hd
  by_cases q : 0 ≤ t ∧ t < 4
  · have p1 : (0 ≤ t ∧ t ≤ 3) = True := eq_true (by omega)
    by_cases q2 : 0 ≤ a ∧ a < sH s
    · rw [if_pos ⟨q, q2⟩]
      simp (disch := omega) only [kd_88 F, ix_lit, inB_lit, decide_true, Bool.true_or, Bool.or_true, true_and, and_true, kI_add, kI_sub, kI_mul, tn_add, Int.toNat_natCast, Int.reduceToNat, kI_le, kI_lt, kI_inj, decide_eq_true_eq, Bool.not_eq_true', decide_eq_false_iff_not, not_true_eq_false, not_false_eq_true, Classical.not_not, Bool.false_eq_true, if_true, if_false, z0, bI_k0, bI_k1, isB_b, isB_0, isB_1, kI_long, kd_stI, ln_stI, rv_stI, M_within_c, p1, M_isHand_c C, eq_true q2, M_noSeen_c C X W, eq_true q]
    · rw [if_neg (fun w => q2 w.2)]
      simp (disch := omega) only [kd_88 F, ix_lit, inB_lit, decide_true, Bool.true_or, Bool.or_true, true_and, and_true, kI_add, kI_sub, kI_mul, tn_add, Int.toNat_natCast, Int.reduceToNat, kI_le, kI_lt, kI_inj, decide_eq_true_eq, Bool.not_eq_true', decide_eq_false_iff_not, not_true_eq_false, not_false_eq_true, Classical.not_not, Bool.false_eq_true, if_true, if_false, z0, bI_k0, bI_k1, isB_b, isB_0, isB_1, kI_long, kd_stI, ln_stI, rv_stI, M_within_c, p1, M_isHand_c C, eq_false q2]
  · rw [if_neg (fun w => q w.1)]
    have p1 : (0 ≤ t ∧ t ≤ 3) = False := eq_false (by omega)
    simp (disch := omega) only [ix_lit, inB_lit, decide_true, Bool.true_or, Bool.or_true, true_and, and_true, kI_add, kI_sub, kI_mul, tn_add, Int.toNat_natCast, Int.reduceToNat, kI_le, kI_lt, kI_inj, decide_eq_true_eq, Bool.not_eq_true', decide_eq_false_iff_not, not_true_eq_false, not_false_eq_true, Classical.not_not, Bool.false_eq_true, if_true, if_false, z0, bI_k0, bI_k1, isB_b, isB_0, isB_1, kI_long, kd_stI, ln_stI, rv_stI, M_within_c, p1]
theorem M_mayAs_g {s : ST} {y : DY} {h : AH} (C : MC s y h) {w : TW} (X : MTs w h) (W : WTs w) {t : Nat} (ht : t < 4) (q3 : w.1 t ≠ -1) (ok : ∀ i, i < w.2.1 t → okB s (w.2.2 t) (yD y) i = true) {hd i : Nat} (h1 : hd < 4) (hi : i < w.2.1 t) : GI 6 m_M_mayAs [.ref 88, .int (kI t), .int (kI hd), .int (kI i)] h (bI32 (mayE s y (w.2.2 t) hd (yB y hd) i = true)) (Fr IM JM h) := by
  have F := C.fix
  have n2 := C.wf.n12
  have Wt := W t ht
  have Xt := X t ht
  have n40 := Wt.2.2.1
  refine GIo (s_M_mayAs_0 ?_)
  simp (disch := omega) only [kd_88 F, rv_88_1 F, kd_89 F, ln_89 F, ix_lit, inB_lit, decide_true, Bool.true_or, Bool.or_true, true_and, and_true, kI_add, kI_sub, kI_mul, tn_add, Int.toNat_natCast, Int.reduceToNat, kI_le, kI_lt, kI_inj, decide_eq_true_eq, Bool.not_eq_true', decide_eq_false_iff_not, not_true_eq_false, not_false_eq_true, Classical.not_not, Bool.false_eq_true, if_true, if_false, z0, bI_k0, bI_k1, isB_b, isB_0, isB_1, kI_long, kd_stI, ln_stI, rv_stI, C.i22, C.i23]
  suffices H : ∀ k, k ≤ i → Safe 5 m_M_mayAs (21, [.ref 88, .int (kI t), .int (kI hd), .int (kI i), .int (kI (pD (w.2.2 t) (yD y) k : Nat)), .int (kI (pL (w.2.2 t) (yL y) k : Nat)), .int (kI k)], [], h) (fun x h' => Eqv x (some (.int (bI32 (mayE s y (w.2.2 t) hd (yB y hd) i = true)))) ∧ Fr IM JM h h') by
    exact H 0 (by omega)
  refine down_ind i ?_ ?_
  · have o := okB_iff.mp (ok i hi)
    have okk := fun j (hj : j < i) => ok j (by omega)
    have hm : pD (w.2.2 t) (yD y) i < 4096 := Nat.lt_of_lt_of_le (pD_lt C.wy.1 okk) (Nat.pow_le_pow_right (n := 2) (by omega) n2)
    have hl := pL_ok C.wy.2.1 okk
    have ej : (kJ (w.2.2 t i)).toInt32 = kI ((w.2.2 t i).toNat : Int) := by rw [kJ_int (by omega) (by omega)]; congr 1; omega
    have ei2 : ix (kI (40 * (t : Int) + i)) = 40 * t + i := by rw [ix_lit (by omega) (by omega)]; omega
    have eb2 : inB (kI (40 * (t : Int) + i)) 160 = true := inB_lit (by omega) (by omega) (by omega)
    have xf := Xt.f q3 hi
    refine s_M_mayAs_21 ?_
    simp (disch := omega) only [kd_88 F, rv_88_30 F, kd_105 F, ln_105 F, ix_lit, inB_lit, decide_true, Bool.true_or, Bool.or_true, true_and, and_true, kI_add, kI_sub, kI_mul, tn_add, Int.toNat_natCast, Int.reduceToNat, kI_le, kI_lt, kI_inj, decide_eq_true_eq, Bool.not_eq_true', decide_eq_false_iff_not, not_true_eq_false, not_false_eq_true, Classical.not_not, Bool.false_eq_true, if_true, if_false, z0, bI_k0, bI_k1, isB_b, isB_0, isB_1, kI_long, kd_stI, ln_stI, rv_stI, Int.le_refl, ei2, eb2, xf, ej]
    exact GI.use (M_mayDraw_g C h1 (by omega) hm hl) (by omega) (fun h2 e2 => ⟨isB_b _, rfl, e2⟩)
  · intro k hk ih
    have o := okB_iff.mp (ok k (by omega))
    have ej : (kJ (w.2.2 t k)).toInt32 = kI ((w.2.2 t k).toNat : Int) := by rw [kJ_int (by omega) (by omega)]; congr 1; omega
    have ei2 : ix (kI (40 * (t : Int) + k)) = 40 * t + k := by rw [ix_lit (by omega) (by omega)]; omega
    have eb2 : inB (kI (40 * (t : Int) + k)) 160 = true := inB_lit (by omega) (by omega) (by omega)
    have xf := Xt.f q3 (show k < w.2.1 t by omega)
    have z1 : ¬ (i : Int) ≤ (k : Int) := by omega
    refine s_M_mayAs_21 ?_
    simp (disch := omega) only [kd_88 F, rv_88_30 F, kd_105 F, ln_105 F, ix_lit, inB_lit, decide_true, Bool.true_or, Bool.or_true, true_and, and_true, kI_add, kI_sub, kI_mul, tn_add, Int.toNat_natCast, Int.reduceToNat, kI_le, kI_lt, kI_inj, decide_eq_true_eq, Bool.not_eq_true', decide_eq_false_iff_not, not_true_eq_false, not_false_eq_true, Classical.not_not, Bool.false_eq_true, if_true, if_false, z0, bI_k0, bI_k1, isB_b, isB_0, isB_1, kI_long, kd_stI, ln_stI, rv_stI, z1, ei2, eb2, xf, ej, kI_shl1, kI_or]
    exact ih
/-- states with another habit of one hand -/
theorem MC.hab {s : ST} {y : DY} {h : AH} (C : MC s y h) {a n b : Nat} (ha : a < 4) (hn : n ≤ 9) (e : dHab y a n = dHab y a n) : PostM s (dHab y a n) h (stI h 89 (25 + a) (kI n)) := st_B C ha hn
theorem M_habitsOf_g {s : ST} {y : DY} {h : AH} (C : MC s y h) {w : TW} (X : MTs w h) (W : WTs w) {t : Nat} (ht : t < 4) (q3 : w.1 t ≠ -1) (ok : ∀ i, i < w.2.1 t → okB s (w.2.2 t) (yD y) i = true) {a : Nat} (ha : a < 4) : GI 7 m_M_habitsOf [.ref 88, .int (kI t), .int (kI a)] h (kI (habB s y (w.2.1 t) (w.2.2 t) a)) (PostM s y h) := by
  have F := C.fix
  have Wt := W t ht
  have n40 := Wt.2.2.1
  have b9 := C.wy.2.2.2.2 a
  refine GIo (s_M_habitsOf_0 ?_)
  simp (disch := omega) only [kd_88 F, rv_88_1 F, kd_89 F, ln_89 F, ix_lit, inB_lit, decide_true, Bool.true_or, Bool.or_true, true_and, and_true, kI_add, kI_sub, kI_mul, tn_add, Int.toNat_natCast, Int.reduceToNat, kI_le, kI_lt, kI_inj, decide_eq_true_eq, Bool.not_eq_true', decide_eq_false_iff_not, not_true_eq_false, not_false_eq_true, Classical.not_not, Bool.false_eq_true, if_true, if_false, z0, bI_k0, bI_k1, isB_b, isB_0, isB_1, kI_long, kd_stI, ln_stI, rv_stI, C.ib]
  suffices H : ∀ k, k ≤ 10 → ∀ (n : Nat) (h3 : AH), n ≤ 9 → Fr ID JM h h3 → MC s (dHab y a n) h3 → Safe 6 m_M_habitsOf (16, [.ref 88, .int (kI t), .int (kI a), .int (kI (yB y a)), .int (kI (bitsB (fun hb => allB (mayE s y (w.2.2 t) a hb) (w.2.1 t)) k : Nat)), .int (kI k), unV, unV], [], h3) (fun x h' => Eqv x (some (.int (kI (habB s y (w.2.1 t) (w.2.2 t) a)))) ∧ PostM s y h h') by
    exact H 0 (by omega) (yB y a) h b9 (Fr_rfl _ _ _) (by rw [dHab_self]; exact C)
  refine down_ind 10 ?_ ?_
  · intro n h3 hn e3 C3
    have F3 := C3.fix
    refine s_M_habitsOf_16 ?_
    simp (disch := omega) only [kd_88 F3, rv_88_1 F3, kd_89 F3, ln_89 F3, ix_lit, inB_lit, decide_true, Bool.true_or, Bool.or_true, true_and, and_true, kI_add, kI_sub, kI_mul, tn_add, Int.toNat_natCast, Int.reduceToNat, kI_le, kI_lt, kI_inj, decide_eq_true_eq, Bool.not_eq_true', decide_eq_false_iff_not, not_true_eq_false, not_false_eq_true, Classical.not_not, Bool.false_eq_true, if_true, if_false, z0, bI_k0, bI_k1, isB_b, isB_0, isB_1, kI_long, kd_stI, ln_stI, rv_stI, Int.cast_ofNat_Int, Int.le_refl]
    have := st_B C3 ha b9
    rw [dHab_dHab, dHab_self] at this
    exact ⟨rfl, e3.trans this.1, this.2⟩
  · intro k hk ih n h3 hn e3 C3
    have F3 := C3.fix
    have z1 : ¬ (10 : Int) ≤ (k : Int) := by omega
    refine s_M_habitsOf_16 ?_
    simp (disch := omega) only [kd_88 F3, rv_88_1 F3, kd_89 F3, ln_89 F3, ix_lit, inB_lit, decide_true, Bool.true_or, Bool.or_true, true_and, and_true, kI_add, kI_sub, kI_mul, tn_add, Int.toNat_natCast, Int.reduceToNat, kI_le, kI_lt, kI_inj, decide_eq_true_eq, Bool.not_eq_true', decide_eq_false_iff_not, not_true_eq_false, not_false_eq_true, Classical.not_not, Bool.false_eq_true, if_true, if_false, z0, bI_k0, bI_k1, isB_b, isB_0, isB_1, kI_long, kd_stI, ln_stI, rv_stI, z1]
    have S3 := st_B C3 ha (show k ≤ 9 by omega)
    rw [dHab_dHab] at S3
    generalize stI h3 89 (25 + a) (kI k) = h4 at S3 ⊢
    have e4 := e3.trans S3.1
    have C4 := S3.2
    have yk := yB_dHab y a k
    have fin : ∀ (h5 : AH) (b : Bool), Fr ID JM h h5 → MC s (dHab y a k) h5 → b = allB (mayE s y (w.2.2 t) a k) (w.2.1 t) → Safe 6 m_M_habitsOf (72, [.ref 88, .int (kI t), .int (kI a), .int (kI (yB y a)), .int (kI (bitsB (fun hb => allB (mayE s y (w.2.2 t) a hb) (w.2.1 t)) k : Nat)), .int (kI k), .int (bI32 (b = true)), unV], [], h5) (fun x h' => Eqv x (some (.int (kI (habB s y (w.2.1 t) (w.2.2 t) a)))) ∧ PostM s y h h') := by
      intro h5 b e5 C5 hb
      subst hb
      have := ih k h5 (by omega) e5 C5
      rw [bitsB_s] at this
      refine s_M_habitsOf_72 ?_
      simp (disch := omega) only [ix_lit, inB_lit, decide_true, Bool.true_or, Bool.or_true, true_and, and_true, kI_add, kI_sub, kI_mul, tn_add, Int.toNat_natCast, Int.reduceToNat, kI_le, kI_lt, kI_inj, decide_eq_true_eq, Bool.not_eq_true', decide_eq_false_iff_not, not_true_eq_false, not_false_eq_true, Classical.not_not, Bool.false_eq_true, if_true, if_false, z0, bI_k0, bI_k1, isB_b, isB_0, isB_1, kI_long, kd_stI, ln_stI, rv_stI, kI_shl1]
      by_cases z : allB (mayE s y (w.2.2 t) a k) (w.2.1 t) = true
      · rw [if_pos z] at this
        rw [if_neg (fun w => w z)]
        refine s_M_habitsOf_87 ?_
        rw [kI_or, kI_add]
        exact this
      · rw [if_neg z] at this
        rw [if_pos z]
        refine s_M_habitsOf_87 ?_
        rw [show kI 0 = kI ((0 : Nat) : Int) from rfl, kI_or, kI_add]
        exact this
    suffices H2 : ∀ i, i ≤ w.2.1 t → ∀ (h5 : AH), Fr ID JM h h5 → MC s (dHab y a k) h5 → (∀ j, j < i → mayE s y (w.2.2 t) a k j = true) → Safe 6 m_M_habitsOf (40, [.ref 88, .int (kI t), .int (kI a), .int (kI (yB y a)), .int (kI (bitsB (fun hb => allB (mayE s y (w.2.2 t) a hb) (w.2.1 t)) k : Nat)), .int (kI k), .int (kI 1), .int (kI i)], [], h5) (fun x h' => Eqv x (some (.int (kI (habB s y (w.2.1 t) (w.2.2 t) a)))) ∧ PostM s y h h') by
      exact H2 0 (by omega) h4 e4 C4 (fun j hj => by omega)
    refine down_ind (w.2.1 t) ?_ ?_
    · intro h5 e5 C5 HA
      have F5 := C5.fix
      have xn := (X.id e5 t ht).n q3
      refine s_M_habitsOf_40 ?_
      simp (disch := omega) only [kd_88 F5, rv_88_29 F5, kd_104 F5, ln_104 F5, xn, ix_lit, inB_lit, decide_true, Bool.true_or, Bool.or_true, true_and, and_true, kI_add, kI_sub, kI_mul, tn_add, Int.toNat_natCast, Int.reduceToNat, kI_le, kI_lt, kI_inj, decide_eq_true_eq, Bool.not_eq_true', decide_eq_false_iff_not, not_true_eq_false, not_false_eq_true, Classical.not_not, Bool.false_eq_true, if_true, if_false, z0, bI_k0, bI_k1, isB_b, isB_0, isB_1, kI_long, kd_stI, ln_stI, rv_stI, Int.le_refl]
      exact fin h5 true e5 C5 (allB_iff.mpr HA).symm
    · intro i hi ih2 h5 e5 C5 HA
      have F5 := C5.fix
      have X5 := X.id e5
      have xn := (X5 t ht).n q3
      have z2 : ¬ (w.2.1 t : Int) ≤ (i : Int) := by omega
      refine s_M_habitsOf_40 ?_
      simp (disch := omega) only [kd_88 F5, rv_88_29 F5, kd_104 F5, ln_104 F5, xn, ix_lit, inB_lit, decide_true, Bool.true_or, Bool.or_true, true_and, and_true, kI_add, kI_sub, kI_mul, tn_add, Int.toNat_natCast, Int.reduceToNat, kI_le, kI_lt, kI_inj, decide_eq_true_eq, Bool.not_eq_true', decide_eq_false_iff_not, not_true_eq_false, not_false_eq_true, Classical.not_not, Bool.false_eq_true, if_true, if_false, z0, bI_k0, bI_k1, isB_b, isB_0, isB_1, kI_long, kd_stI, ln_stI, rv_stI, z2, Int.reduceEq]
      refine GI.use (M_mayAs_g C5 X5 W ht q3 ok ha hi) (by omega) (fun h6 e6 => ?_)
      rw [yk]
      have e7 := e5.trans (e6.mono (fun a k w => Or.inl w) (fun _ _ w => w))
      have C6 := C5.fr e6
      have me : mayE s (dHab y a k) (w.2.2 t) a k i = mayE s y (w.2.2 t) a k i := rfl
      rw [me]
      by_cases z : mayE s y (w.2.2 t) a k i = true
      · rw [z]
        refine ih2 h6 e7 C6 (fun j hj => ?_)
        by_cases zj : j = i
        · rw [zj]; exact z
        · exact HA j (by omega)
      · have z' : mayE s y (w.2.2 t) a k i = false := by simpa using z
        rw [z']
        have F6 := C6.fix
        have xn6 := (X.id e7 t ht).n q3
        refine s_M_habitsOf_40 ?_
        have f0 : bI32 (false = true) = kI 0 := rfl
        have := fin h6 false e7 C6 (allB_no hi z').symm
        rw [f0] at this ⊢
        simp (disch := omega) only [kd_88 F6, rv_88_29 F6, kd_104 F6, ln_104 F6, xn6, ix_lit, inB_lit, decide_true, Bool.true_or, Bool.or_true, true_and, and_true, kI_add, kI_sub, kI_mul, tn_add, Int.toNat_natCast, Int.reduceToNat, kI_le, kI_lt, kI_inj, decide_eq_true_eq, Bool.not_eq_true', decide_eq_false_iff_not, not_true_eq_false, not_false_eq_true, Classical.not_not, Bool.false_eq_true, if_true, if_false, z0, bI_k0, bI_k1, isB_b, isB_0, isB_1, kI_long, kd_stI, ln_stI, rv_stI]
        split
        · exact this
        · exact this
def OutH (s : ST) (y : DY) (hs : List DY) (h h' : AH) : Prop := Fr IMd JM h h' ∧ BM s y hs h'
theorem PostM.bm {s : ST} {y : DY} {hs : List DY} {h h' : AH} (B : BM s y hs h) (P : PostM s y h h') : BM s y hs h' := ⟨P.2, B.H.fr P.1 (fun k _ _ => by unfold ID IM; omega), B.wh⟩
def habA (s : ST) (y : DY) (w : TW) (t a : Int) : Int := if (0 ≤ t ∧ t < 4) ∧ (0 ≤ a ∧ a < sH s) then (if seR s y (w.1 t.toNat) (w.2.1 t.toNat) (w.2.2 t.toNat) = 0 then (habB s y (w.2.1 t.toNat) (w.2.2 t.toNat) a.toNat : Int) else seR s y (w.1 t.toNat) (w.2.1 t.toNat) (w.2.2 t.toNat)) else -2
theorem seR_0 {s : ST} {y : DY} {so : Int} {n : Nat} {f : Nat → Int} (h : seR s y so n f = 0) : so ≠ -1 ∧ (1 ≤ n ∧ n ≤ 12) ∧ ∀ i, i < n → okB s f (yD y) i = true := by
  unfold seR at h
  by_cases q : so = -1
  · rw [if_pos q] at h; omega
  · rw [if_neg q] at h
    by_cases q2 : 1 ≤ n ∧ n ≤ 12
    · rw [if_pos q2] at h
      by_cases q4 : allB (okB s f (yD y)) n = true
      · exact ⟨q, q2, allB_iff.mp q4⟩
      · rw [if_neg q4] at h; omega
    · rw [if_neg q2] at h; omega
theorem seR_b (s : ST) (y : DY) (so : Int) (n : Nat) (f : Nat → Int) : -6 ≤ seR s y so n f ∧ seR s y so n f ≤ 0 := by
  unfold seR
  split
  · omega
  · split
    · split <;> omega
    · omega
theorem M_habits_g {s : ST} {y : DY} {hs : List DY} {h : AH} (B : BM s y hs h) {w : TW} (X : MTs w h) (W : WTs w) {t a : Int} (t1 : -2147483648 ≤ t) (t2 : t ≤ 2147483647) (a1 : -2147483648 ≤ a) (a2 : a ≤ 2147483647) : GI 8 m_M_habits [.ref 88, .int (kI t), .int (kI a)] h (kI (habA s y w t a)) (OutH s y hs h) := by
  have F := B.M.fix
  have e0 := f88 h
  have B0 := B.im e0
  have F0 := B0.M.fix
  have g0 : Fr IMd JM h (stI h 88 0 (kI 0)) := e0.mono (fun a k w => w.d) (fun _ _ w => w)
  have X0 := X.im e0
  have h4 := B.M.wf.2.2.2.2.2.1
  refine GIo (s_M_habits_0 ?_)
  simp (disch := omega) only [kd_88 F, kd_88 F0, decide_true, true_and, M_noSeenBy_c B0.M X0 W]
  unfold habA
  by_cases q : (0 ≤ t ∧ t < 4) ∧ (0 ≤ a ∧ a < sH s)
  · rw [if_pos q, if_pos q]
    obtain ⟨t, rfl⟩ := Int.eq_ofNat_of_zero_le q.1.1
    obtain ⟨a, rfl⟩ := Int.eq_ofNat_of_zero_le q.2.1
    simp only [Int.toNat_natCast]
    have sb := seR_b s y (w.1 t) (w.2.1 t) (w.2.2 t)
    simp (disch := omega) only [ix_lit, inB_lit, decide_true, Bool.true_or, Bool.or_true, true_and, and_true, kI_add, kI_sub, kI_mul, tn_add, Int.toNat_natCast, Int.reduceToNat, kI_le, kI_lt, kI_inj, decide_eq_true_eq, Bool.not_eq_true', decide_eq_false_iff_not, not_true_eq_false, not_false_eq_true, Classical.not_not, Bool.false_eq_true, if_true, if_false, z0, bI_k0, bI_k1, isB_b, isB_0, isB_1, kI_long, kd_stI, ln_stI, rv_stI]
    by_cases z : seR s y (w.1 t) (w.2.1 t) (w.2.2 t) = 0
    · rw [if_pos z, if_pos z]
      have z3 := seR_0 z
      refine GI.use (M_habitsOf_g B0.M X0 W (t := t) (by omega) z3.1 z3.2.2 (a := a) (by omega)) (by omega) (fun h1 e1 => ?_)
      exact ⟨rfl, g0.trans (e1.1.mono (fun a k w => w.d) (fun _ _ w => w)), e1.bm B0⟩
    · rw [if_neg z, if_neg z]
      exact ⟨rfl, g0, B0⟩
  · rw [if_neg q, if_neg q]
    simp (disch := omega) only [ix_lit, inB_lit, decide_true, Bool.true_or, Bool.or_true, true_and, and_true, kI_add, kI_sub, kI_mul, tn_add, Int.toNat_natCast, Int.reduceToNat, kI_le, kI_lt, kI_inj, decide_eq_true_eq, Bool.not_eq_true', decide_eq_false_iff_not, not_true_eq_false, not_false_eq_true, Classical.not_not, Bool.false_eq_true, if_true, if_false, z0, bI_k0, bI_k1, isB_b, isB_0, isB_1, kI_long, kd_stI, ln_stI, rv_stI, Int.reduceEq]
    exact ⟨rfl, g0, B0⟩
theorem X_habits_g {T : Nat → Nat} {s : ST} {p : Nat} {y : DY} {v : Int} {hs : List DY} {nx : Nat} {h : AH} (B : BX T s p y v hs nx h) {w : TW} (X : XTs w h) (W : WTs w) {t a : Int} (t1 : -2147483648 ≤ t) (t2 : t ≤ 2147483647) (a1 : -2147483648 ≤ a) (a2 : a ≤ 2147483647) : GI 7 m_X_habits [.ref 1, .int (kI t), .int (kI a)] h (kI (habA s y w t a)) (FS T h) := by
  have F := B.F
  have h4 := B.S.wf.2.2.2.2.2.1
  refine GIo (s_X_habits_0 ?_)
  unfold habA
  by_cases q : 0 ≤ t ∧ t < 4
  · have p1 : (0 ≤ t ∧ t < 4) = True := eq_true q
    by_cases q2 : 0 ≤ a ∧ a < sH s
    · rw [if_pos ⟨q, q2⟩]
      have p2 : (0 ≤ a ∧ a < sH s) = True := eq_true q2
      obtain ⟨t, rfl⟩ := Int.eq_ofNat_of_zero_le q.1
      obtain ⟨a, rfl⟩ := Int.eq_ofNat_of_zero_le q2.1
      have ht : t < 4 := by omega
      have Tf := tr_fix F ht
      simp only [Int.toNat_natCast]
      have sb := seR_b s y (w.1 t) (w.2.1 t) (w.2.2 t)
      simp (disch := omega) only [kd_1 F, B.r, B.S.k, rv_1_11 F, kd_73 F, ln_73 F, Tf.1, rv_1_10 F, kd_67 F, rv_1_3 F, ix_lit, inB_lit, decide_true, Bool.true_or, Bool.or_true, true_and, and_true, kI_add, kI_sub, kI_mul, tn_add, Int.toNat_natCast, Int.reduceToNat, kI_le, kI_lt, kI_inj, decide_eq_true_eq, Bool.not_eq_true', decide_eq_false_iff_not, not_true_eq_false, not_false_eq_true, Classical.not_not, Bool.false_eq_true, if_true, if_false, z0, bI_k0, bI_k1, isB_b, isB_0, isB_1, kI_long, kd_stI, ln_stI, rv_stI, X_isTray_c, p1, Sh_hasHand_c B.S, p2, Nat.reduceLeDiff, Se_refusal_c B X W ht]
      by_cases z : seR s y (w.1 t) (w.2.1 t) (w.2.2 t) = 0
      · rw [if_pos z, if_pos z]
        have z3 := seR_0 z
        exact GI.use (Se_fitting_g B X W ht z3.1 z3.2.2 (by omega)) (by omega) (fun h1 e1 => ⟨rfl, e1⟩)
      · rw [if_neg z, if_neg z]
        exact ⟨rfl, Fr_rfl _ _ _⟩
    · rw [if_neg (fun w => q2 w.2)]
      simp (disch := omega) only [kd_1 F, B.r, B.S.k, ix_lit, inB_lit, decide_true, Bool.true_or, Bool.or_true, true_and, and_true, kI_add, kI_sub, kI_mul, tn_add, Int.toNat_natCast, Int.reduceToNat, kI_le, kI_lt, kI_inj, decide_eq_true_eq, Bool.not_eq_true', decide_eq_false_iff_not, not_true_eq_false, not_false_eq_true, Classical.not_not, Bool.false_eq_true, if_true, if_false, z0, bI_k0, bI_k1, isB_b, isB_0, isB_1, kI_long, kd_stI, ln_stI, rv_stI, X_isTray_c, p1, Sh_hasHand_c B.S, eq_false q2]
      exact ⟨rfl, Fr_rfl _ _ _⟩
  · rw [if_neg (fun w => q w.1)]
    simp (disch := omega) only [ix_lit, inB_lit, decide_true, Bool.true_or, Bool.or_true, true_and, and_true, kI_add, kI_sub, kI_mul, tn_add, Int.toNat_natCast, Int.reduceToNat, kI_le, kI_lt, kI_inj, decide_eq_true_eq, Bool.not_eq_true', decide_eq_false_iff_not, not_true_eq_false, not_false_eq_true, Classical.not_not, Bool.false_eq_true, if_true, if_false, z0, bI_k0, bI_k1, isB_b, isB_0, isB_1, kI_long, kd_stI, ln_stI, rv_stI, X_isTray_c, eq_false q]
    exact ⟨rfl, Fr_rfl _ _ _⟩
