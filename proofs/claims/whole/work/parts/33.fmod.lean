/-! Math.floorMod -/
def fm_y : MethodName := ⟨"java/lang/Math", "floorMod", "(II)I"⟩
theorem fm_0 : decode cJ9_floorMod_7cf53 0 = .ok (.iload_n 0, 1) := by decide +kernel
theorem fm_1 : decode cJ9_floorMod_7cf53 1 = .ok (.iload_n 1, 1) := by decide +kernel
theorem fm_2 : decode cJ9_floorMod_7cf53 2 = .ok (.irem, 1) := by decide +kernel
theorem fm_3 : decode cJ9_floorMod_7cf53 3 = .ok (.istore_n 2, 1) := by decide +kernel
theorem fm_4 : decode cJ9_floorMod_7cf53 4 = .ok (.iload_n 0, 1) := by decide +kernel
theorem fm_5 : decode cJ9_floorMod_7cf53 5 = .ok (.iload_n 1, 1) := by decide +kernel
theorem fm_6 : decode cJ9_floorMod_7cf53 6 = .ok (.ixor, 1) := by decide +kernel
theorem fm_7 : decode cJ9_floorMod_7cf53 7 = .ok (.ifCond .ge 11, 3) := by decide +kernel
theorem fm_10 : decode cJ9_floorMod_7cf53 10 = .ok (.iload_n 2, 1) := by decide +kernel
theorem fm_11 : decode cJ9_floorMod_7cf53 11 = .ok (.ifCond .eq 7, 3) := by decide +kernel
theorem fm_14 : decode cJ9_floorMod_7cf53 14 = .ok (.iload_n 2, 1) := by decide +kernel
theorem fm_15 : decode cJ9_floorMod_7cf53 15 = .ok (.iload_n 1, 1) := by decide +kernel
theorem fm_16 : decode cJ9_floorMod_7cf53 16 = .ok (.iadd, 1) := by decide +kernel
theorem fm_17 : decode cJ9_floorMod_7cf53 17 = .ok (.ireturn, 1) := by decide +kernel
theorem fm_18 : decode cJ9_floorMod_7cf53 18 = .ok (.iload_n 2, 1) := by decide +kernel
theorem fm_19 : decode cJ9_floorMod_7cf53 19 = .ok (.ireturn, 1) := by decide +kernel
theorem fm_noRow0 : (NativeRow.find? natives fm_y.cls fm_y.name fm_y.desc).isNone = true := by decide +kernel
theorem fm_noRow (p : Program) : NativeRow.find? p.tables.natives fm_y.cls fm_y.name fm_y.desc = none := by
  cases p <;> exact Option.isNone_iff_eq_none.mp fm_noRow0
def fm_spec (a b : Int32) : Spec := { pre := .and (.code fm_y cJ9_floorMod_7cf53 3 (some .int)) (.and (.count 2) (.and (.eq (.arg 0) (.int a)) (.eq (.arg 1) (.int b)))), post := .and .returned (.eq .result (.int (fmF a b))), changes := some [] }
set_option maxHeartbeats 4000000 in
theorem fm_meets (l : Launch) (a b : Int32) (hb0 : ¬ b = 0) : MeetsLoose l fm_y (fm_spec a b) := by
  refine MeetsLoose.of_body_ov (code := cJ9_floorMod_7cf53) (maxLocals := 3) (ret := some .int) fm_noRow ?_ ?_
  · intro args s h
    simp only [fm_spec, Cond.before_and, Bool.and_eq_true] at h
    exact h.1
  · intro p e s m args below meth c s₁ B
    have hpre := B.pre
    simp only [fm_spec, Cond.before_and, Bool.and_eq_true] at hpre
    have hargs : args = #[.int a, .int b] := by
      have h1 := va_eqt hpre.2.2.1
      have h2 := va_eqt hpre.2.2.2
      have h3 : args.size = 2 := by simpa [Cond.before, Cond.holds, Cond.value] using hpre.2.1
      have h4 : args[0]? = some (.int a) := h1
      have h5 : args[1]? = some (.int b) := h2
      apply Array.ext
      · simpa using h3
      · intro i hi1 hi2
        have hi : i = 0 ∨ i = 1 := by omega
        rcases hi with rfl | rfl
        · simpa [Array.getElem?_eq_getElem hi1] using h4
        · simpa [Array.getElem?_eq_getElem hi1] using h5
    subst hargs
    have hloc : argsToLocals #[.int a, .int b] 3 = #[.val (.int a), .val (.int b), .unset] := rfl
    obtain ⟨fs, hfs⟩ := handOver_isSome (s := s₁) (some (.int (fmF a b))) B.hears₁
    refine ⟨s₁.setFrames fs, .returned (some (.int (fmF a b))), ?_, B.here.running, B.ended hfs (by intro h; cases h), ?_, State.sameBut_nil.mpr ?_⟩
    · have hst : ∀ v : Int32, storeLocals #[.val (.int a), .val (.int b), .unset] 2 (.int v) = some #[.val (.int a), .val (.int b), .val (.int v)] := fun v => rfl
      unfold entryFrame; rw [hloc]
      refine Steps.instrAtOv (c := _) (by simpa using B.here) ?_
      simp [jvm, wpRun, exec, B.here.top, B.exec, B.bytes, fm_0]
      refine Steps.instrAtOv (c := _) (by simpa using B.here) ?_
      simp [jvm, wpRun, exec, B.here.top, B.exec, B.bytes, fm_1]
      refine Steps.instrAtOv (c := _) (by simpa using B.here) ?_
      simp [jvm, wpRun, exec, B.here.top, B.exec, B.bytes, fm_2, hb0]
      refine Steps.instrAtOv (c := _) (by simpa using B.here) ?_
      simp [jvm, wpRun, exec, B.here.top, B.exec, B.bytes, fm_3, hst]
      refine Steps.instrAtOv (c := _) (by simpa using B.here) ?_
      simp [jvm, wpRun, exec, B.here.top, B.exec, B.bytes, fm_4]
      refine Steps.instrAtOv (c := _) (by simpa using B.here) ?_
      simp [jvm, wpRun, exec, B.here.top, B.exec, B.bytes, fm_5]
      refine Steps.instrAtOv (c := _) (by simpa using B.here) ?_
      simp [jvm, wpRun, exec, B.here.top, B.exec, B.bytes, fm_6]
      sorry
    · simp [fm_spec, Cond.after, Cond.holds, Cond.value, Term.eval]
    · rw [State.frames_setFrames _ B.cur₁, B.back]
