/-! the start: the outer cells, the context, the law -/
def bK : List Int32 := [32, 115, 104, 101, 101, 116, 32, 114, 111, 119, 32, 104, 97, 110, 100, 32, 104, 97, 98, 105, 116, 32, 100, 114, 97, 119, 110, 32, 108, 97, 115, 116, 32, 109, 97, 121, 32, 111, 100, 100, 115, 32, 99, 101, 108, 108, 32, 107, 105, 110, 100, 32, 110, 101, 97, 114, 32, 108, 101, 102, 116, 32, 102, 97, 114, 32, 97, 110, 100, 32, 111, 114, 32, 110, 111, 116, 32]
def bS : List Int32 := [59, 58, 43, 45, 42, 40, 41, 91, 93, 61, 60, 62]
def bW : List Int32 := [115, 104, 101, 101, 116, 114, 111, 119, 32, 32, 104, 97, 110, 100, 32, 104, 97, 98, 105, 116, 100, 114, 97, 119, 110, 108, 97, 115, 116, 32, 109, 97, 121, 32, 32, 111, 100, 100, 115, 32, 111, 114, 32, 32, 32, 97, 110, 100, 32, 32, 110, 111, 116, 32, 32, 99, 101, 108, 108, 32, 107, 105, 110, 100, 32, 110, 101, 97, 114, 32, 108, 101, 102, 116, 32, 102, 97, 114, 32, 32]
def h00 (L : Nat) (xs : Nat → Int32) (fm : Nat) : AH :=
  (fun x => if x = 1000000 then 40 else if 1000001 ≤ x ∧ x ≤ 1000003 then 13 else if 1000005 ≤ x ∧ x ≤ 1000007 then 42 else 99,
   fun x => if x = 1000000 then L else if x = 1000005 then 77 else if x = 1000006 then 12 else if x = 1000007 then 80 else 0,
   fun x k => if x = 1000000 then xs k else if x = 1000009 then 1 else if x = 1000005 then bK.getD k 0 else if x = 1000006 then bS.getD k 0 else if x = 1000007 then bW.getD k 0 else 0,
   fun _ _ => 0,
   fun x _ => if 1000001 ≤ x ∧ x ≤ 1000003 then x + 4 else if x = 1000009 then fm else 0,
   0, 0)
def tmS (i : Nat) : Term := match i with
  | 0 => .string "LastMarkModel" 81
  | 1 => .string "LastMark$Tokens" 64
  | _ => .string "LastMark$Tokens" 76
def lnS : List Nat := [77, 12, 80]
def byS : List (List Int32) := [bK, bS, bW]
abbrev nrw : Cond := Jvm.Cond.and given_1 narrow_1
theorem st_ex : ∀ i, i < 3 → Cond.exactly (tmS i) "java/lang/String" ∈ flatC nrw := by decide +kernel
theorem st_co : ∀ i, i < 3 → Cond.eq (.field (tmS i) "java/lang/String" "coder" "B") (.int 0) ∈ flatC nrw := by decide +kernel
theorem st_ar : ∀ i, i < 3 → Cond.arrayOf (.field (tmS i) "java/lang/String" "value" "[B") .byte ∈ flatC nrw := by decide +kernel
theorem st_le : ∀ i, i < 3 → Cond.eq (.length (.field (tmS i) "java/lang/String" "value" "[B")) (.int (Int32.ofNat (lnS.getD i 0))) ∈ flatC nrw := by decide +kernel
theorem st_e0_0 : ∀ j, j < 20 → (flatC nrw)[166 + j]? = some (Cond.eq (.elem (.field (.string "LastMarkModel" 81) "java/lang/String" "value" "[B") (.int (Int32.ofNat (0 + j)))) (.int (bK.getD (0 + j) 0))) := by decide +kernel
theorem st_e0_1 : ∀ j, j < 20 → (flatC nrw)[186 + j]? = some (Cond.eq (.elem (.field (.string "LastMarkModel" 81) "java/lang/String" "value" "[B") (.int (Int32.ofNat (20 + j)))) (.int (bK.getD (20 + j) 0))) := by decide +kernel
theorem st_e0_2 : ∀ j, j < 20 → (flatC nrw)[206 + j]? = some (Cond.eq (.elem (.field (.string "LastMarkModel" 81) "java/lang/String" "value" "[B") (.int (Int32.ofNat (40 + j)))) (.int (bK.getD (40 + j) 0))) := by decide +kernel
theorem st_e0_3 : ∀ j, j < 17 → (flatC nrw)[226 + j]? = some (Cond.eq (.elem (.field (.string "LastMarkModel" 81) "java/lang/String" "value" "[B") (.int (Int32.ofNat (60 + j)))) (.int (bK.getD (60 + j) 0))) := by decide +kernel
theorem st_e0 : ∀ j, j < 77 → Cond.eq (.elem (.field (.string "LastMarkModel" 81) "java/lang/String" "value" "[B") (.int (Int32.ofNat j))) (.int (bK.getD j 0)) ∈ flatC nrw := by
  intro j hj
  by_cases h0 : j < 20
  · have h := st_e0_0 (j - 0) (by omega)
    rw [show 0 + (j - 0) = j by omega] at h
    exact List.mem_of_getElem? h
  by_cases h20 : j < 40
  · have h := st_e0_1 (j - 20) (by omega)
    rw [show 20 + (j - 20) = j by omega] at h
    exact List.mem_of_getElem? h
  by_cases h40 : j < 60
  · have h := st_e0_2 (j - 40) (by omega)
    rw [show 40 + (j - 40) = j by omega] at h
    exact List.mem_of_getElem? h
  by_cases h60 : j < 77
  · have h := st_e0_3 (j - 60) (by omega)
    rw [show 60 + (j - 60) = j by omega] at h
    exact List.mem_of_getElem? h
  omega
theorem st_e1_0 : ∀ j, j < 12 → (flatC nrw)[149 + j]? = some (Cond.eq (.elem (.field (.string "LastMark$Tokens" 64) "java/lang/String" "value" "[B") (.int (Int32.ofNat (0 + j)))) (.int (bS.getD (0 + j) 0))) := by decide +kernel
theorem st_e1 : ∀ j, j < 12 → Cond.eq (.elem (.field (.string "LastMark$Tokens" 64) "java/lang/String" "value" "[B") (.int (Int32.ofNat j))) (.int (bS.getD j 0)) ∈ flatC nrw := by
  intro j hj
  by_cases h0 : j < 12
  · have h := st_e1_0 (j - 0) (by omega)
    rw [show 0 + (j - 0) = j by omega] at h
    exact List.mem_of_getElem? h
  omega
theorem st_e2_0 : ∀ j, j < 20 → (flatC nrw)[65 + j]? = some (Cond.eq (.elem (.field (.string "LastMark$Tokens" 76) "java/lang/String" "value" "[B") (.int (Int32.ofNat (0 + j)))) (.int (bW.getD (0 + j) 0))) := by decide +kernel
theorem st_e2_1 : ∀ j, j < 20 → (flatC nrw)[85 + j]? = some (Cond.eq (.elem (.field (.string "LastMark$Tokens" 76) "java/lang/String" "value" "[B") (.int (Int32.ofNat (20 + j)))) (.int (bW.getD (20 + j) 0))) := by decide +kernel
theorem st_e2_2 : ∀ j, j < 20 → (flatC nrw)[105 + j]? = some (Cond.eq (.elem (.field (.string "LastMark$Tokens" 76) "java/lang/String" "value" "[B") (.int (Int32.ofNat (40 + j)))) (.int (bW.getD (40 + j) 0))) := by decide +kernel
theorem st_e2_3 : ∀ j, j < 20 → (flatC nrw)[125 + j]? = some (Cond.eq (.elem (.field (.string "LastMark$Tokens" 76) "java/lang/String" "value" "[B") (.int (Int32.ofNat (60 + j)))) (.int (bW.getD (60 + j) 0))) := by decide +kernel
theorem st_e2 : ∀ j, j < 80 → Cond.eq (.elem (.field (.string "LastMark$Tokens" 76) "java/lang/String" "value" "[B") (.int (Int32.ofNat j))) (.int (bW.getD j 0)) ∈ flatC nrw := by
  intro j hj
  by_cases h0 : j < 20
  · have h := st_e2_0 (j - 0) (by omega)
    rw [show 0 + (j - 0) = j by omega] at h
    exact List.mem_of_getElem? h
  by_cases h20 : j < 40
  · have h := st_e2_1 (j - 20) (by omega)
    rw [show 20 + (j - 20) = j by omega] at h
    exact List.mem_of_getElem? h
  by_cases h40 : j < 60
  · have h := st_e2_2 (j - 40) (by omega)
    rw [show 40 + (j - 40) = j by omega] at h
    exact List.mem_of_getElem? h
  by_cases h60 : j < 80
  · have h := st_e2_3 (j - 60) (by omega)
    rw [show 60 + (j - 60) = j by omega] at h
    exact List.mem_of_getElem? h
  omega
theorem st_el : ∀ i, i < 3 → ∀ j, j < lnS.getD i 0 → Cond.eq (.elem (.field (tmS i) "java/lang/String" "value" "[B") (.int (Int32.ofNat j))) (.int ((byS.getD i []).getD j 0)) ∈ flatC nrw := by
  intro i hi
  have h : i = 0 ∨ i = 1 ∨ i = 2 := by omega
  rcases h with rfl | rfl | rfl
  · exact st_e0
  · exact st_e1
  · exact st_e2
theorem st_ne : ∀ i, i < 3 → ∀ j, j < 3 → i ≠ j → Cond.not (Cond.eq (tmS i) (tmS j)) ∈ flatC nrw ∨ Cond.not (Cond.eq (tmS j) (tmS i)) ∈ flatC nrw := by decide +kernel
theorem st_119 : Cond.eq (.string "LastMark$Tokens" 64) (.string "LastMarkModel" 119) ∈ flatC nrw := by decide +kernel
theorem st_cs : Cond.eq (.static "java/lang/String" "COMPACT_STRINGS" "Z") (.int 1) ∈ flatC nrw := by decide +kernel
theorem st_fm : Cond.isRef (.static "jdk/internal/util/Preconditions" "SIOOBE_FORMATTER" "Ljava/util/function/BiFunction;") ∈ flatC nrw := by decide +kernel
theorem st_w1 : Cond.laysStatic "java/lang/String" "COMPACT_STRINGS" "Z" ∈ lw_tbl ∧ Cond.laysStatic "jdk/internal/util/Preconditions" "SIOOBE_FORMATTER" "Ljava/util/function/BiFunction;" ∈ lw_tbl ∧ Cond.initialized "java/lang/String" ∈ lw_tbl ∧ Cond.initialized "jdk/internal/util/Preconditions" ∈ lw_tbl ∧ Cond.castable "[I" "java/lang/Cloneable" ∈ lw_tbl := by decide +kernel
theorem st_w2 : Cond.arrayOver (.object (RC 5)) ∈ lw_tbl ∧ Cond.arrayOver (.object (RC 10)) ∈ lw_tbl ∧ Cond.arrayOver (.object (RC 8)) ∈ lw_tbl ∧ Cond.arrayOver (.object (RC 3)) ∈ lw_tbl := by decide +kernel
theorem st_w3 : Cond.arrayClass .int ∈ lw_tbl ∧ Cond.arrayClass .long ∈ lw_tbl ∧ Cond.arrayClass .byte ∈ lw_tbl ∧ Cond.arrayClass .short ∈ lw_tbl ∧ Cond.arrayClass .boolean ∈ lw_tbl := by decide +kernel
theorem st_w4 : Cond.stringRef "LastMark$Tokens" 64 ";:+-*()[]=<>" ∈ lw_tbl ∧ Cond.stringRef "LastMark$Tokens" 76 "sheetrow  hand habitdrawnlast may  odds or   and  not  cell kind near left far  " ∈ lw_tbl ∧ Cond.stringRef "LastMarkModel" 119 ";:+-*()[]=<>" ∈ lw_tbl ∧ Cond.stringRef "LastMarkModel" 81 " sheet row hand habit drawn last may odds cell kind near left far and or not " ∈ lw_tbl := by decide +kernel
theorem arr_prim {args : Array Value} {s : State} {ty : FieldType} (h : (Cond.arrayClass ty).before args s = true) (hra : ∀ cA, s.vm.findClass ("[" ++ ty.toString) = some cA → va_RA s cA ty) : ∃ cA : ClassId, ArrOfT s cA ty ∧ va_RA s cA ty := by
  obtain ⟨cA, k, comp, h1, h2, h3⟩ := Cond.arrayClass_spec h
  exact ⟨cA, fun n z => ⟨(fun _ h => by cases h), k, h2, comp, h3⟩, hra cA h1⟩
theorem arr_ref {args : Array Value} {s : State} {C : String} (h : (Cond.arrayOver (.object C)).before args s = true) : ∃ cA : ClassId, ArrOfT s cA (.object C) ∧ va_RA s cA (.object C) := by
  obtain ⟨comp, cA, k, h1, -, h2, h3, h4⟩ := Cond.arrayOver_spec h
  exact ⟨cA, fun n z => ⟨(fun _ h => by cases h), k, h2, comp, h3⟩, k, comp, h2, h3, h1, h4⟩
theorem sT_cases {own i t : Nat} (h : sT own i = some t) : (own = 9 ∧ i = 64 ∧ t = 1) ∨ (own = 9 ∧ i = 76 ∧ t = 2) ∨ (own = 12 ∧ i = 119 ∧ t = 1) ∨ (own = 12 ∧ i = 81 ∧ t = 0) := by
  have hown : own < 20 := by
    apply Decidable.byContradiction
    intro hn
    have : nth sTt own [] = [] := by
      match own, hn with
      | k + 20, _ => rfl
      | 0, hn => exact absurd (by decide) hn
    unfold sT at h
    rw [this] at h
    cases h
  have hmem := lkp_mem _ h
  have key : ∀ w, w < 20 → ∀ q ∈ nth sTt w [], (w = 9 ∧ q.1 = 64 ∧ q.2 = 1) ∨ (w = 9 ∧ q.1 = 76 ∧ q.2 = 2) ∨ (w = 12 ∧ q.1 = 119 ∧ q.2 = 1) ∨ (w = 12 ∧ q.1 = 81 ∧ q.2 = 0) := by decide +kernel
  exact key own hown _ hmem
