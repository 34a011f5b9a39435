/-! the law's run, as a whole -/
theorem b_K : ∀ k, k < 77 → bK.getD k 0 = kI ((strK.getD k 0 : Nat) : Int) := by decide +kernel
theorem b_S : ∀ k, k < 12 → bS.getD k 0 = kI ((strS.getD k 0 : Nat) : Int) := by decide +kernel
theorem b_W : ∀ k, k < 80 → bW.getD k 0 = kI ((strW.getD k 0 : Nat) : Int) := by decide +kernel
theorem OX_h00 (L : Nat) (xs : Nat → Int32) (fm : Nat) : OX (h00 L xs fm) := by
  obtain ⟨l1, l2, l3⟩ := str_len
  refine ⟨rfl, fun i hi => ?_⟩
  have c : i = 0 ∨ i = 1 ∨ i = 2 := by omega
  rcases c with c | c | c <;> subst c
  · exact ⟨rfl, rfl, rfl, rfl, l1.symm, fun k hk => b_K k (by rw [show (strL 0).length = 77 from l1] at hk; exact hk)⟩
  · exact ⟨rfl, rfl, rfl, rfl, l2.symm, fun k hk => b_S k (by rw [show (strL 1).length = 12 from l2] at hk; exact hk)⟩
  · exact ⟨rfl, rfl, rfl, rfl, l3.symm, fun k hk => b_W k (by rw [show (strL 2).length = 80 from l3] at hk; exact hk)⟩
theorem law_run : LawRun := by
  intro L xs fm hL _
  show Safe 200 m_L_law (0, [.ref 1000000, unV, unV, unV], [], h00 L xs fm) _
  have H0 : HT (h00 L xs fm) [] 0 (h00 L xs fm) := ⟨rfl, rfl, by decide, fun x h1 h2 => absurd h2 (by show ¬ x ≤ 0; omega), fun x hx => ⟨rfl, rfl, fun _ => rfl, fun _ => rfl⟩⟩
  have Ha : HT (h00 L xs fm) tb_1 14 (nwA (h00 L xs fm) 11 14) := H0.nw 11 14 (by decide)
  have s0 : szA (h00 L xs fm) = 0 := rfl
  refine s_L_law_0 ?_
  rw [s0]
  refine ⟨rfl, GV.use (n_X Ha) (by omega) (fun h1 H1 => ?_)⟩
  have s1 : szA h1 = 87 := H1.sz
  have Hb : HT (h00 L xs fm) tb_110 5590 (nwA h1 12 31) := by
    have e : tNw tb_109 12 31 = tb_110 := rfl
    rw [← e]
    exact H1.nw 12 31 (by decide +kernel)
  rw [s1]
  refine ⟨rfl, GV.use (n_M Hb) (by omega) (fun h2 z => ?_)⟩
  obtain ⟨g, Hg, e, P⟩ := z
  have I0 := start_inv (L := L) (xs := xs) (by omega) (OX_h00 L xs fm) ⟨rfl, rfl, fun _ => rfl⟩ Hg e P
  refine law_loop hL (fun c h c5 I => ?_) 600 0 h2 (by omega) (by omega) I0
  obtain ⟨T, R, s, p, y, v, hs, nx, w, tp, nt, fa, fb, im, C, M, W, O, S, hv, B⟩ := I
  unfold RB at B
  exact ⟨rfl, by omega, by omega⟩
