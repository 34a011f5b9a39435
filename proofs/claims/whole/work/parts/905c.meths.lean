def mtC (u : Nat) : Bool := inT (nth pCode u 0) (.code (yM u) (cM u) (mxM u) (rfM u)) && inT (nth pInit u 0) (.initialized (yM u).cls) && (if kdM u = 0 then inT (nth pKind u 0) (.static (yM u)) else inT (nth pKind u 0) (.instanceMethod (yM u))) && (if kdM u = 1 then inT (nth pSel u 0) (.selects (yM u).cls (yM u) (yM u)) else true) && decide ((yM u).cls = RC (owM u)) && plainName (yM u).cls && decide ((parseMethodDescriptor (yM u).desc).map (fun d => d.parameters.length) = some (naM u)) && decide ((yM u).cls ≠ "java/lang/invoke/MethodHandle") && decide ((yM u).cls ≠ "java/lang/invoke/VarHandle") && (if kdM u = 2 then decide ((yM u).name = "<init>") && decide (rfM u = none) else true) && decide (mxM u ≤ 30) && decide (rtM u ≤ 6)
theorem mt_0 : (List.range 20).all (fun k => mtC (0 + k)) = true := by decide +kernel
theorem mt_1 : (List.range 20).all (fun k => mtC (20 + k)) = true := by decide +kernel
theorem mt_2 : (List.range 20).all (fun k => mtC (40 + k)) = true := by decide +kernel
theorem mt_3 : (List.range 20).all (fun k => mtC (60 + k)) = true := by decide +kernel
theorem mt_4 : (List.range 20).all (fun k => mtC (80 + k)) = true := by decide +kernel
theorem mt_5 : (List.range 20).all (fun k => mtC (100 + k)) = true := by decide +kernel
theorem mt_6 : (List.range 20).all (fun k => mtC (120 + k)) = true := by decide +kernel
theorem mt_7 : (List.range 20).all (fun k => mtC (140 + k)) = true := by decide +kernel
theorem mt_8 : (List.range 20).all (fun k => mtC (160 + k)) = true := by decide +kernel
theorem mt_9 : (List.range 20).all (fun k => mtC (180 + k)) = true := by decide +kernel
theorem mt_10 : (List.range 20).all (fun k => mtC (200 + k)) = true := by decide +kernel
theorem mt_11 : (List.range 20).all (fun k => mtC (220 + k)) = true := by decide +kernel
theorem mt_12 : (List.range 20).all (fun k => mtC (240 + k)) = true := by decide +kernel
theorem mt_13 : (List.range 20).all (fun k => mtC (260 + k)) = true := by decide +kernel
theorem mt_14 : (List.range 20).all (fun k => mtC (280 + k)) = true := by decide +kernel
theorem mt_15 : (List.range 20).all (fun k => mtC (300 + k)) = true := by decide +kernel
theorem mt_16 : (List.range 6).all (fun k => mtC (320 + k)) = true := by decide +kernel
theorem mt {u : Nat} (h : u < 326) : mtC u = true := by
  have key : ∀ (b n : Nat), (List.range n).all (fun k => mtC (b + k)) = true → b ≤ u → u < b + n → mtC u = true := by
    intro b n h h1 h2
    have h3 := List.all_eq_true.mp h (u - b) (List.mem_range.mpr (by omega))
    rwa [show b + (u - b) = u by omega] at h3
  by_cases h0 : u < 20
  · exact key 0 20 mt_0 (by omega) (by omega)
  by_cases h1 : u < 40
  · exact key 20 20 mt_1 (by omega) (by omega)
  by_cases h2 : u < 60
  · exact key 40 20 mt_2 (by omega) (by omega)
  by_cases h3 : u < 80
  · exact key 60 20 mt_3 (by omega) (by omega)
  by_cases h4 : u < 100
  · exact key 80 20 mt_4 (by omega) (by omega)
  by_cases h5 : u < 120
  · exact key 100 20 mt_5 (by omega) (by omega)
  by_cases h6 : u < 140
  · exact key 120 20 mt_6 (by omega) (by omega)
  by_cases h7 : u < 160
  · exact key 140 20 mt_7 (by omega) (by omega)
  by_cases h8 : u < 180
  · exact key 160 20 mt_8 (by omega) (by omega)
  by_cases h9 : u < 200
  · exact key 180 20 mt_9 (by omega) (by omega)
  by_cases h10 : u < 220
  · exact key 200 20 mt_10 (by omega) (by omega)
  by_cases h11 : u < 240
  · exact key 220 20 mt_11 (by omega) (by omega)
  by_cases h12 : u < 260
  · exact key 240 20 mt_12 (by omega) (by omega)
  by_cases h13 : u < 280
  · exact key 260 20 mt_13 (by omega) (by omega)
  by_cases h14 : u < 300
  · exact key 280 20 mt_14 (by omega) (by omega)
  by_cases h15 : u < 320
  · exact key 300 20 mt_15 (by omega) (by omega)
  by_cases h16 : u < 326
  · exact key 320 6 mt_16 (by omega) (by omega)
  omega
