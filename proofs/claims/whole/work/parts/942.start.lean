/-! what stands at the start -/
def T00 (a : Nat) : Nat := if a = 3 ∨ a = 6 ∨ a = 7 then 0 else if a = 5 then 1 else 2
theorem end_kd : kdTab.all (fun q => decide (1 ≤ q.1 ∧ q.1 ≤ 105) && decide ((tcl tbEnd q.1).1 = q.2)) = true := by decide +kernel
theorem end_ln : lnTab.all (fun q => decide (1 ≤ q.1 ∧ q.1 ≤ 105) && decide ((tcl tbEnd q.1).2.1 = q.2)) = true := by decide +kernel
theorem end_rv : rvTab.all (fun q => decide (1 ≤ q.1 ∧ q.1 ≤ 105) && decide (lkR (tcl tbEnd q.1).2.2.2 q.2.1 = q.2.2)) = true := by decide +kernel
theorem end_len : tbEnd.length = 105 := by decide +kernel
set_option maxHeartbeats 1000000 in
theorem start_inv {L : Nat} {xs : Nat → Int32} {O g h : AH} {u : Nat} (u1 : u ≤ 300000) (OO : OX O) (OS : Scr L xs O) (H : HT O tbEnd u g) (e : Fr (fun x k => x = 89 ∧ k < 1001) JM g h) (P : ∀ j, j < 1001 → ivA h 89 j = kI (g0F j)) : Inv L xs 0 h := by
  have len := end_len
  have szg : szA g = 105 := by rw [H.sz, len]
  have kd : ∀ x, 1 ≤ x → x ≤ 105 → kdA h x = (tcl tbEnd x).1 := fun x h1 h2 => by rw [e.1]; exact (H.c x h1 (by omega)).1
  have ln : ∀ x, 1 ≤ x → x ≤ 105 → lnA h x = (tcl tbEnd x).2.1 := fun x h1 h2 => by rw [e.2.1]; exact (H.c x h1 (by omega)).2.1
  have rv : ∀ x k, 1 ≤ x → x ≤ 105 → rvA h x k = lkR (tcl tbEnd x).2.2.2 k := fun x k h1 h2 => by rw [e.2.2.1]; exact (H.c x h1 (by omega)).2.2.2 k
  have iv : ∀ x k, 1 ≤ x → x ≤ 105 → x ≠ 89 → ivA h x k = kI (lkI (tcl tbEnd x).2.2.1 k) := fun x k h1 h2 h3 => by rw [e.2.2.2.2.2.1 x k (by omega)]; exact (H.c x h1 (by omega)).2.2.1 k
  have szh : szA h = 105 := by rw [e.2.2.2.1]; exact szg
  have F : Fix h := by
    refine ⟨fun q hq => ?_, fun q hq => ?_, fun q hq => ?_, by omega⟩
    · have := List.all_eq_true.mp end_kd q hq
      rw [Bool.and_eq_true, decide_eq_true_eq, decide_eq_true_eq] at this
      rw [kd q.1 this.1.1 this.1.2]; exact this.2
    · have := List.all_eq_true.mp end_ln q hq
      rw [Bool.and_eq_true, decide_eq_true_eq, decide_eq_true_eq] at this
      rw [ln q.1 this.1.1 this.1.2]; exact this.2
    · have := List.all_eq_true.mp end_rv q hq
      rw [Bool.and_eq_true, decide_eq_true_eq, decide_eq_true_eq] at this
      rw [rv q.1 _ this.1.1 this.1.2]; exact this.2
  have wf := g0_gx.wf (by omega)
  obtain ⟨y1, y2, y3, y4⟩ := y0_g
  have eM : sM (gS g0F []) = [] := rfl
  have eO : sO (gS g0F []) = [] := rfl
  have eN : sN (gS g0F []) = 1 := rfl
  have hz : ∀ x, 1000000 ≤ x → ∀ k, ivA h x k = ivA O x k := fun x hx k => by rw [e.2.2.2.2.2.1 x k (by omega)]; exact (H.o x hx).2.2.1 k
  have OXh : OX h := by
    refine ⟨by rw [hz _ (by omega)]; exact OO.1, fun i hi => ?_⟩
    have w := OO.2 i hi
    have o1 := H.o (1000001 + i) (by omega)
    have o2 := H.o (1000005 + i) (by omega)
    rw [e.1, e.2.1, e.2.2.1, o1.1, o1.2.2.2, hz _ (by omega), o2.1, o2.2.1]
    exact ⟨w.1, w.2.1, w.2.2.1, w.2.2.2.1, w.2.2.2.2.1, fun k hk => by rw [hz _ (by omega)]; exact w.2.2.2.2.2 k hk⟩
  have Sh : Scr L xs h := by
    have o1 := H.o 1000000 (by omega)
    exact ⟨by rw [e.1, o1.1]; exact OS.1, by rw [e.2.1, o1.2.1]; exact OS.2.1, fun k => by rw [hz _ (by omega)]; exact OS.2.2 k⟩
  have t : TF T00 := fun a _ => rfl
  have td : TD T00 h := fun x hx => by unfold T00; rw [if_neg (by omega), if_neg (by omega)]
  have r9 : rvA h 3 9 = 6 := rv 3 9 (by omega) (by omega)
  have r10 : rvA h 3 10 = 7 := rv 3 10 (by omega) (by omega)
  have r13 : rvA h 3 13 = 5 := rv 3 13 (by omega) (by omega)
  have S : XS T00 (gS g0F []) 3 h := by
    unfold XS
    rw [r9, r10, r13, eN]
    have n0 : ∀ k, k < 1 → k = 0 := fun k hk => by omega
    refine ⟨wf.1, kd 3 (by omega) (by omega), iv 3 0 (by omega) (by omega) (by omega), iv 3 1 (by omega) (by omega) (by omega), iv 3 2 (by omega) (by omega) (by omega), iv 3 3 (by omega) (by omega) (by omega), iv 3 4 (by omega) (by omega) (by omega), iv 3 5 (by omega) (by omega) (by omega), ?_, ?_, ?_, kd 6 (by omega) (by omega), ln 6 (by omega) (by omega), fun k hk => ?_, kd 7 (by omega) (by omega), ln 7 (by omega) (by omega), fun k hk => ?_, fun _ => rv 3 11 (by omega) (by omega), fun z => absurd eM z, fun _ => rv 3 12 (by omega) (by omega), fun z => absurd eO z, kd 5 (by omega) (by omega), ln 5 (by omega) (by omega), rfl, rfl, rfl, rfl, ⟨by omega, by omega⟩, by omega, by omega, by omega⟩
    · rw [iv 3 6 (by omega) (by omega) (by omega)]; rfl
    · rw [iv 3 7 (by omega) (by omega) (by omega)]; rfl
    · rw [iv 3 8 (by omega) (by omega) (by omega)]; rfl
    · rw [n0 k hk, iv 6 0 (by omega) (by omega) (by omega)]; rfl
    · rw [n0 k hk, iv 7 0 (by omega) (by omega) (by omega)]; rfl
  have XPp : XP (gY g0F) 0 8 h := ⟨by rw [iv 8 0 (by omega) (by omega) (by omega), y1]; rfl, by rw [iv 8 1 (by omega) (by omega) (by omega), y2]; rfl, by rw [iv 8 2 (by omega) (by omega) (by omega), y3]; rfl, by rw [iv 8 3 (by omega) (by omega) (by omega)]; rfl, fun k hk => by rw [iv (8 + 1) k (by omega) (by omega) (by omega), y4]; rfl⟩
  have BXh : BX T00 (gS g0F []) 3 (gY g0F) 0 [] 0 h := ⟨F, t, rv 1 2 (by omega) (by omega), S, XPp, ⟨by omega, by simp, by rw [iv 14 1 (by omega) (by omega) (by omega)]; rfl, by rw [iv 14 2 (by omega) (by omega) (by omega)]; rfl, fun i hi => absurd hi (Nat.not_lt_zero i)⟩, wf.2, fun i hi => absurd hi (Nat.not_lt_zero i)⟩
  have q9 : rvA h 57 9 = 59 := rv 57 9 (by omega) (by omega)
  have q10 : rvA h 57 10 = 60 := rv 57 10 (by omega) (by omega)
  have q11 : rvA h 57 11 = 61 := rv 57 11 (by omega) (by omega)
  have l59 : lnA h 59 = 0 := ln 59 (by omega) (by omega)
  have l60 : lnA h 60 = 0 := ln 60 (by omega) (by omega)
  have l61 : lnA h 61 = 0 := ln 61 (by omega) (by omega)
  have PAsh : PAs T00 h := by
    unfold PAs PArr
    rw [q9, q10, q11, l59, l60, l61, szh]
    exact ⟨⟨by omega, rfl, by omega, kd 59 (by omega) (by omega), by omega, by omega⟩, ⟨by omega, rfl, by omega, kd 60 (by omega) (by omega), by omega, by omega⟩, ⟨by omega, rfl, by omega, kd 61 (by omega) (by omega), by omega, by omega⟩, ⟨by omega, by omega, by omega⟩, rfl⟩
  have PIh : PI T00 (fun _ => gS g0F []) (gS g0F []) 3 (gY g0F) 0 h := by
    refine ⟨fun i hi => ?_, rfl, by omega, PAsh, td, ⟨-1, iv 57 2 (by omega) (by omega) (by omega), by omega, by omega, fun q => by omega⟩, ⟨-1, iv 65 2 (by omega) (by omega) (by omega), by omega, by omega, fun q => by omega⟩⟩
    have c : i = 0 ∨ i = 1 ∨ i = 2 ∨ i = 3 := by omega
    rcases c with c | c | c | c <;> subst c
    · exact ⟨iv 45 0 (by omega) (by omega) (by omega), by rw [rv (45 + 3 * 0) 1 (by omega) (by omega)]; decide +kernel, -1, by omega, by omega, iv 45 2 (by omega) (by omega) (by omega), fun z => by omega⟩
    · exact ⟨iv 48 0 (by omega) (by omega) (by omega), by rw [rv (45 + 3 * 1) 1 (by omega) (by omega)]; decide +kernel, -1, by omega, by omega, iv 48 2 (by omega) (by omega) (by omega), fun z => by omega⟩
    · exact ⟨iv 51 0 (by omega) (by omega) (by omega), by rw [rv (45 + 3 * 2) 1 (by omega) (by omega)]; decide +kernel, -1, by omega, by omega, iv 51 2 (by omega) (by omega) (by omega), fun z => by omega⟩
    · exact ⟨iv 54 0 (by omega) (by omega) (by omega), by rw [rv (45 + 3 * 3) 1 (by omega) (by omega)]; decide +kernel, -1, by omega, by omega, iv 54 2 (by omega) (by omega) (by omega), fun z => by omega⟩
  have ts : XTs (fun _ => -1, fun _ => 0, fun _ _ => 0) h := fun t ht => by
    left
    refine ⟨rfl, ?_⟩
    have c : t = 0 ∨ t = 1 ∨ t = 2 ∨ t = 3 := by omega
    rcases c with c | c | c | c <;> subst c
    · exact iv 74 2 (by omega) (by omega) (by omega)
    · exact iv 76 2 (by omega) (by omega) (by omega)
    · exact iv 78 2 (by omega) (by omega) (by omega)
    · exact iv 80 2 (by omega) (by omega) (by omega)
  have ms : MTs (fun _ => -1, fun _ => 0, fun _ _ => 0) h := fun t ht => by
    refine ⟨?_, fun z => absurd rfl z⟩
    have c : t = 0 ∨ t = 1 ∨ t = 2 ∨ t = 3 := by omega
    rcases c with c | c | c | c <;> subst c
    · exact iv 103 0 (by omega) (by omega) (by omega)
    · exact iv 103 1 (by omega) (by omega) (by omega)
    · exact iv 103 2 (by omega) (by omega) (by omega)
    · exact iv 103 3 (by omega) (by omega) (by omega)
  have mc : MC (gS g0F []) (gY g0F) h := g0_gx.mc (by omega) (by simp) F (fun k hk => P k (by omega)) (fun k hk => absurd hk (Nat.not_lt_zero k))
  refine ⟨T00, fun _ => gS g0F [], gS g0F [], 3, gY g0F, 0, [], 0, (fun _ => -1, fun _ => 0, fun _ _ => 0), fun _ => 0, 0, kI 0, kI (-1), fun _ => none, ⟨⟨BXh, PIh, by omega, by omega, by omega⟩, ts, ⟨by omega, iv 1 1 (by omega) (by omega) (by omega), fun k hk => absurd hk (Nat.not_lt_zero k)⟩, ⟨0, by omega, iv 36 3 (by omega) (by omega) (by omega)⟩, iv 36 11 (by omega) (by omega) (by omega), iv 36 12 (by omega) (by omega) (by omega), fun i hi => ?_⟩, ⟨⟨mc, ⟨by simp, ?_, fun i hi => absurd hi (Nat.not_lt_zero i)⟩, fun i hi => absurd hi (Nat.not_lt_zero i)⟩, ms, ⟨by omega, iv 88 5 (by omega) (by omega) (by omega), fun k hk => absurd hk (Nat.not_lt_zero k), fun k hk => absurd hk (Nat.not_lt_zero k)⟩, iv 88 13 (by omega) (by omega) (by omega), iv 88 14 (by omega) (by omega) (by omega), fun i hi => ?_⟩, fun t ht => ⟨by show (-1 : Int) ≤ -1; omega, by show (-1 : Int) ≤ 3; omega, by show 0 ≤ 40; omega, fun i => by show (-9223372036854775808 : Int) ≤ 0 ∧ (0 : Int) ≤ 9223372036854775807; omega⟩, OXh, Sh, by omega, ?_⟩
  · show rvA h 82 i = 0
    rw [rv 82 i (by omega) (by omega)]
    rfl
  · rw [P 29 (by omega)]; rfl
  · show ivA h 90 i = kI 0
    rw [iv 90 i (by omega) (by omega) (by omega)]
    rfl
  · have ph : PhP h ≤ 300000 := by
      unfold PhP
      rw [q9, q10, l59, l60]
      have : Phi LA 0 + 2 * Phi LM 0 ≤ 300000 := by decide +kernel
      exact this
    have us : usA h = u := by rw [e.2.2.2.2.1]; exact H.us
    unfold RB
    rw [us, szh]
    omega
