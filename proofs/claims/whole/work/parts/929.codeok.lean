/-! the code tables are the claim's code (written by gen29.py) -/
theorem lkp_mem {α : Type} {i : Nat} {a : α} : ∀ l : List (Nat × α), lkp l i = some a → (i, a) ∈ l
  | [], h => by cases h
  | (k, b) :: r, h => by
    unfold lkp at h
    split at h
    · rename_i e
      cases h
      rw [Nat.eq_of_beq_eq_true e]
      exact List.mem_cons_self
    · exact List.mem_cons_of_mem _ (lkp_mem r h)
def cdB (u : Nat) (e : Nat × Instr × Nat) : Bool := okLen e.2.1 e.2.2 && (match e.2.1 with
  | .putfield j => match fT (owM u) j with
    | some f => decide (f / 64 < 13) && (!(TC (f / 64) (f % 64)).2.2.2 || (decide (kdM u = 2) && decide (owM u = f / 64) && decide ((TC (f / 64) (f % 64)).1 = RC (f / 64))))
    | none => true
  | _ => true)
theorem cdOf {u : Nat} (h1 : (codeM u).all (ckR (cM u)) = true) (h2 : (codeM u).all (cdB u) = true) : CdOk u := by
  intro pc i k hl
  have hmem := lkp_mem _ hl
  have a1 := List.all_eq_true.mp h1 _ hmem
  have a2 := List.all_eq_true.mp h2 _ hmem
  unfold cdB at a2
  rw [Bool.and_eq_true] at a2
  refine ⟨of_decide_eq_true a1, a2.1, fun j hj f hf => ?_⟩
  subst hj
  have a3 := a2.2
  simp only [hf, Bool.and_eq_true, Bool.or_eq_true, Bool.not_eq_true', decide_eq_true_eq] at a3
  refine ⟨a3.1, fun q => ?_⟩
  rcases a3.2 with a4 | a4
  · rw [q] at a4; cases a4
  · exact ⟨a4.1.1, a4.1.2, a4.2⟩
theorem cdq_0 : CdOk 0 := cdOf (u := 0) ck_Ch_new (by decide +kernel)
theorem cd_1 : CdOk 1 := cdOf (u := 1) ck_Ch_begin (by decide +kernel)
theorem cd_2 : CdOk 2 := cdOf (u := 2) ck_Ch_spread (by decide +kernel)
theorem cd_3 : CdOk 3 := cdOf (u := 3) ck_Hi_new (by decide +kernel)
theorem cd_4 : CdOk 4 := cdOf (u := 4) ck_Hi_keep (by decide +kernel)
theorem cd_5 : CdOk 5 := cdOf (u := 5) ck_Hi_bringBack (by decide +kernel)
theorem cd_6 : CdOk 6 := cdOf (u := 6) ck_Hi_forget (by decide +kernel)
theorem cd_7 : CdOk 7 := cdOf (u := 7) ck_La_new (by decide +kernel)
theorem cd_8 : CdOk 8 := cdOf (u := 8) ck_La_value (by decide +kernel)
theorem cd_9 : CdOk 9 := cdOf (u := 9) ck_La_joined (by decide +kernel)
theorem cd_10 : CdOk 10 := cdOf (u := 10) ck_Pg_new (by decide +kernel)
theorem cd_11 : CdOk 11 := cdOf (u := 11) ck_Pg_copy (by decide +kernel)
theorem cd_12 : CdOk 12 := cdOf (u := 12) ck_Pg_isDrawn (by decide +kernel)
theorem cd_13 : CdOk 13 := cdOf (u := 13) ck_Pg_isFound (by decide +kernel)
theorem cd_14 : CdOk 14 := cdOf (u := 14) ck_Pg_habitOf (by decide +kernel)
theorem cd_15 : CdOk 15 := cdOf (u := 15) ck_Pg_whyNotDraw (by decide +kernel)
theorem cd_16 : CdOk 16 := cdOf (u := 16) ck_Pg_draw (by decide +kernel)
theorem cd_17 : CdOk 17 := cdOf (u := 17) ck_Pg_mark (by decide +kernel)
theorem cd_18 : CdOk 18 := cdOf (u := 18) ck_Pg_erase (by decide +kernel)
theorem cd_19 : CdOk 19 := cdOf (u := 19) ck_Pg_adopt (by decide +kernel)
theorem cd_20 : CdOk 20 := cdOf (u := 20) ck_Pg_setHabit (by decide +kernel)
theorem cd_21 : CdOk 21 := cdOf (u := 21) ck_Pg_conceal (by decide +kernel)
theorem cd_22 : CdOk 22 := cdOf (u := 22) ck_Pg_obey (by decide +kernel)
theorem cd_23 : CdOk 23 := cdOf (u := 23) ck_Pg_clear (by decide +kernel)
theorem cd_24 : CdOk 24 := cdOf (u := 24) ck_Pa_new (by decide +kernel)
theorem cd_25 : CdOk 25 := cdOf (u := 25) ck_Pa_begin (by decide +kernel)
theorem cd_26 : CdOk 26 := cdOf (u := 26) ck_Pa_makeRoom (by decide +kernel)
theorem cd_27 : CdOk 27 := cdOf (u := 27) ck_Pa_spread (by decide +kernel)
theorem cd_28 : CdOk 28 := cdOf (u := 28) ck_Pa_strokesTo (by decide +kernel)
theorem cd_29 : CdOk 29 := cdOf (u := 29) ck_Pa_rankOf (by decide +kernel)
theorem cd_30 : CdOk 30 := cdOf (u := 30) ck_Pa_solve (by decide +kernel)
theorem cd_31 : CdOk 31 := cdOf (u := 31) ck_Pa_isBeyond (by decide +kernel)
theorem cd_32 : CdOk 32 := cdOf (u := 32) ck_Pa_settle (by decide +kernel)
theorem cd_33 : CdOk 33 := cdOf (u := 33) ck_Pa_worth (by decide +kernel)
theorem cd_34 : CdOk 34 := cdOf (u := 34) ck_Pa_most (by decide +kernel)
theorem cd_35 : CdOk 35 := cdOf (u := 35) ck_Pa_least (by decide +kernel)
theorem cd_36 : CdOk 36 := cdOf (u := 36) ck_Pa_played (by decide +kernel)
theorem cd_37 : CdOk 37 := cdOf (u := 37) ck_Pa_trace (by decide +kernel)
theorem cd_38 : CdOk 38 := cdOf (u := 38) ck_Pa_nextStep (by decide +kernel)
theorem cd_39 : CdOk 39 := cdOf (u := 39) ck_Pa_leads (by decide +kernel)
theorem cd_40 : CdOk 40 := cdOf (u := 40) ck_Pa_step (by decide +kernel)
theorem cd_41 : CdOk 41 := cdOf (u := 41) ck_Pa_firstWinning (by decide +kernel)
theorem cd_42 : CdOk 42 := cdOf (u := 42) ck_Pa_reached (by decide +kernel)
theorem cd_43 : CdOk 43 := cdOf (u := 43) ck_Pa_needed (by decide +kernel)
theorem cd_44 : CdOk 44 := cdOf (u := 44) ck_Pa_opens (by decide +kernel)
theorem cd_45 : CdOk 45 := cdOf (u := 45) ck_Pa_tally (by decide +kernel)
theorem cd_46 : CdOk 46 := cdOf (u := 46) ck_Pa_tallyAt (by decide +kernel)
theorem cd_47 : CdOk 47 := cdOf (u := 47) ck_Pa_passOn (by decide +kernel)
theorem cd_48 : CdOk 48 := cdOf (u := 48) ck_Pe_new (by decide +kernel)
theorem cd_49 : CdOk 49 := cdOf (u := 49) ck_Pe_serve (by decide +kernel)
theorem cd_50 : CdOk 50 := cdOf (u := 50) ck_Pe_open (by decide +kernel)
theorem cd_51 : CdOk 51 := cdOf (u := 51) ck_Pe_learn (by decide +kernel)
theorem cd_52 : CdOk 52 := cdOf (u := 52) ck_Re_new (by decide +kernel)
theorem cd_53 : CdOk 53 := cdOf (u := 53) ck_Re_read (by decide +kernel)
theorem cd_54 : CdOk 54 := cdOf (u := 54) ck_Re_forget (by decide +kernel)
theorem cd_55 : CdOk 55 := cdOf (u := 55) ck_Re_refuse (by decide +kernel)
theorem cd_56 : CdOk 56 := cdOf (u := 56) ck_Re_expect (by decide +kernel)
theorem cd_57 : CdOk 57 := cdOf (u := 57) ck_Re_number (by decide +kernel)
theorem cd_58 : CdOk 58 := cdOf (u := 58) ck_Re_head (by decide +kernel)
theorem cd_59 : CdOk 59 := cdOf (u := 59) ck_Re_line (by decide +kernel)
theorem cd_60 : CdOk 60 := cdOf (u := 60) ck_Re_rowLine (by decide +kernel)
theorem cd_61 : CdOk 61 := cdOf (u := 61) ck_Re_handLine (by decide +kernel)
theorem cd_62 : CdOk 62 := cdOf (u := 62) ck_Re_drawnLine (by decide +kernel)
theorem cd_63 : CdOk 63 := cdOf (u := 63) ck_Re_beginLaw (by decide +kernel)
theorem cd_64 : CdOk 64 := cdOf (u := 64) ck_Re_truth (by decide +kernel)
theorem cd_65 : CdOk 65 := cdOf (u := 65) ck_Re_unit (by decide +kernel)
theorem cd_66 : CdOk 66 := cdOf (u := 66) ck_Re_mayNest (by decide +kernel)
theorem cd_67 : CdOk 67 := cdOf (u := 67) ck_Re_comparison (by decide +kernel)
theorem cd_68 : CdOk 68 := cdOf (u := 68) ck_Re_sum (by decide +kernel)
theorem cd_69 : CdOk 69 := cdOf (u := 69) ck_Re_atom (by decide +kernel)
theorem cd_70 : CdOk 70 := cdOf (u := 70) ck_Re_fact (by decide +kernel)
theorem cd_71 : CdOk 71 := cdOf (u := 71) ck_Re_emit (by decide +kernel)
theorem cd_72 : CdOk 72 := cdOf (u := 72) ck_Se_new (by decide +kernel)
theorem cd_73 : CdOk 73 := cdOf (u := 73) ck_Se_refusal (by decide +kernel)
theorem cd_74 : CdOk 74 := cdOf (u := 74) ck_Se_fitting (by decide +kernel)
theorem cd_75 : CdOk 75 := cdOf (u := 75) ck_Se_fits (by decide +kernel)
theorem cd_76 : CdOk 76 := cdOf (u := 76) ck_Se_telling (by decide +kernel)
theorem cd_77 : CdOk 77 := cdOf (u := 77) ck_Se_lesserPart (by decide +kernel)
theorem cd_78 : CdOk 78 := cdOf (u := 78) ck_Se_findAble (by decide +kernel)
theorem cd_79 : CdOk 79 := cdOf (u := 79) ck_Se_authors (by decide +kernel)
theorem cd_80 : CdOk 80 := cdOf (u := 80) ck_Se_fewestChanges (by decide +kernel)
theorem cd_81 : CdOk 81 := cdOf (u := 81) ck_Se_fewestAfter (by decide +kernel)
theorem cd_82 : CdOk 82 := cdOf (u := 82) ck_Se_changesBy (by decide +kernel)
theorem cd_83 : CdOk 83 := cdOf (u := 83) ck_Se_chooseAuthors (by decide +kernel)
theorem cd_84 : CdOk 84 := cdOf (u := 84) ck_Se_author (by decide +kernel)
theorem cd_85 : CdOk 85 := cdOf (u := 85) ck_Se_fewestCovering (by decide +kernel)
theorem cd_86 : CdOk 86 := cdOf (u := 86) ck_Se_union (by decide +kernel)
theorem cd_87 : CdOk 87 := cdOf (u := 87) ck_Sh_new (by decide +kernel)
theorem cd_88 : CdOk 88 := cdOf (u := 88) ck_Sh_hasHand (by decide +kernel)
theorem cd_89 : CdOk 89 := cdOf (u := 89) ck_Sh_hasCell (by decide +kernel)
theorem cd_90 : CdOk 90 := cdOf (u := 90) ck_Sh_kindOf (by decide +kernel)
theorem cd_91 : CdOk 91 := cdOf (u := 91) ck_Sh_near (by decide +kernel)
theorem cd_92 : CdOk 92 := cdOf (u := 92) ck_Sh_left (by decide +kernel)
theorem cd_93 : CdOk 93 := cdOf (u := 93) ck_Sh_steps (by decide +kernel)
theorem cd_94 : CdOk 94 := cdOf (u := 94) ck_Sh_oddsOf (by decide +kernel)
theorem cd_95 : CdOk 95 := cdOf (u := 95) ck_Sh_allOdds (by decide +kernel)
theorem cd_96 : CdOk 96 := cdOf (u := 96) ck_Sh_tellPlace (by decide +kernel)
theorem cd_97 : CdOk 97 := cdOf (u := 97) ck_Sh_holds (by decide +kernel)
theorem cd_98 : CdOk 98 := cdOf (u := 98) ck_Sh_allows (by decide +kernel)
theorem cd_99 : CdOk 99 := cdOf (u := 99) ck_Sh_nearness (by decide +kernel)
theorem cd_100 : CdOk 100 := cdOf (u := 100) ck_To_new (by decide +kernel)
theorem cd_101 : CdOk 101 := cdOf (u := 101) ck_To_open (by decide +kernel)
theorem cd_102 : CdOk 102 := cdOf (u := 102) ck_To_append (by decide +kernel)
theorem cd_103 : CdOk 103 := cdOf (u := 103) ck_To_tokenEnd (by decide +kernel)
theorem cd_104 : CdOk 104 := cdOf (u := 104) ck_To_isLetter (by decide +kernel)
theorem cd_105 : CdOk 105 := cdOf (u := 105) ck_To_isDigit (by decide +kernel)
theorem cd_106 : CdOk 106 := cdOf (u := 106) ck_To_codeOf (by decide +kernel)
theorem cd_107 : CdOk 107 := cdOf (u := 107) ck_To_wordCode (by decide +kernel)
theorem cd_108 : CdOk 108 := cdOf (u := 108) ck_To_isWord (by decide +kernel)
theorem cd_109 : CdOk 109 := cdOf (u := 109) ck_To_numberCode (by decide +kernel)
theorem cd_110 : CdOk 110 := cdOf (u := 110) ck_To_advance (by decide +kernel)
theorem cd_111 : CdOk 111 := cdOf (u := 111) ck_Tr_new (by decide +kernel)
theorem cd_112 : CdOk 112 := cdOf (u := 112) ck_Tr_isMissing (by decide +kernel)
theorem cd_113 : CdOk 113 := cdOf (u := 113) ck_Tr_lay (by decide +kernel)
theorem cd_114 : CdOk 114 := cdOf (u := 114) ck_Tr_at (by decide +kernel)
theorem cd_115 : CdOk 115 := cdOf (u := 115) ck_Tr_put (by decide +kernel)
theorem cd_116 : CdOk 116 := cdOf (u := 116) ck_Tr_cut (by decide +kernel)
theorem cd_117 : CdOk 117 := cdOf (u := 117) ck_Tr_isWithin (by decide +kernel)
theorem cd_118 : CdOk 118 := cdOf (u := 118) ck_X_new (by decide +kernel)
theorem cd_119 : CdOk 119 := cdOf (u := 119) ck_X_feed (by decide +kernel)
theorem cd_120 : CdOk 120 := cdOf (u := 120) ck_X_tapeFour (by decide +kernel)
theorem cd_121 : CdOk 121 := cdOf (u := 121) ck_X_sheet (by decide +kernel)
theorem cd_122 : CdOk 122 := cdOf (u := 122) ck_X_fault (by decide +kernel)
theorem cd_123 : CdOk 123 := cdOf (u := 123) ck_X_cell (by decide +kernel)
theorem cd_124 : CdOk 124 := cdOf (u := 124) ck_X_handsFor (by decide +kernel)
theorem cd_125 : CdOk 125 := cdOf (u := 125) ck_X_hand (by decide +kernel)
theorem cd_126 : CdOk 126 := cdOf (u := 126) ck_X_cellsFor (by decide +kernel)
theorem cd_127 : CdOk 127 := cdOf (u := 127) ck_X_stroke (by decide +kernel)
theorem cd_128 : CdOk 128 := cdOf (u := 128) ck_X_rub (by decide +kernel)
theorem cd_129 : CdOk 129 := cdOf (u := 129) ck_X_keptLeft (by decide +kernel)
theorem cd_130 : CdOk 130 := cdOf (u := 130) ck_X_habit (by decide +kernel)
theorem cd_131 : CdOk 131 := cdOf (u := 131) ck_X_hide (by decide +kernel)
theorem cd_132 : CdOk 132 := cdOf (u := 132) ck_X_undo (by decide +kernel)
theorem cd_133 : CdOk 133 := cdOf (u := 133) ck_X_judge (by decide +kernel)
theorem cd_134 : CdOk 134 := cdOf (u := 134) ck_X_perform (by decide +kernel)
theorem cd_135 : CdOk 135 := cdOf (u := 135) ck_X_keptIfAny (by decide +kernel)
theorem cd_136 : CdOk 136 := cdOf (u := 136) ck_X_night (by decide +kernel)
theorem cd_137 : CdOk 137 := cdOf (u := 137) ck_X_shaken (by decide +kernel)
theorem cd_138 : CdOk 138 := cdOf (u := 138) ck_X_nightDeed (by decide +kernel)
theorem cd_139 : CdOk 139 := cdOf (u := 139) ck_X_longest (by decide +kernel)
theorem cd_140 : CdOk 140 := cdOf (u := 140) ck_X_refusedCell (by decide +kernel)
theorem cd_141 : CdOk 141 := cdOf (u := 141) ck_X_longWay (by decide +kernel)
theorem cd_142 : CdOk 142 := cdOf (u := 142) ck_X_stuck (by decide +kernel)
theorem cd_143 : CdOk 143 := cdOf (u := 143) ck_X_stuckWay (by decide +kernel)
theorem cd_144 : CdOk 144 := cdOf (u := 144) ck_X_soonest (by decide +kernel)
theorem cd_145 : CdOk 145 := cdOf (u := 145) ck_X_way (by decide +kernel)
theorem cd_146 : CdOk 146 := cdOf (u := 146) ck_X_reach (by decide +kernel)
theorem cd_147 : CdOk 147 := cdOf (u := 147) ck_X_ahead (by decide +kernel)
theorem cd_148 : CdOk 148 := cdOf (u := 148) ck_X_rows (by decide +kernel)
theorem cd_149 : CdOk 149 := cdOf (u := 149) ck_X_ends (by decide +kernel)
theorem cd_150 : CdOk 150 := cdOf (u := 150) ck_X_likely (by decide +kernel)
theorem cd_151 : CdOk 151 := cdOf (u := 151) ck_X_inLowestTerms (by decide +kernel)
theorem cd_152 : CdOk 152 := cdOf (u := 152) ck_X_safest (by decide +kernel)
theorem cd_153 : CdOk 153 := cdOf (u := 153) ck_X_isPart (by decide +kernel)
theorem cd_154 : CdOk 154 := cdOf (u := 154) ck_X_likeliest (by decide +kernel)
theorem cd_155 : CdOk 155 := cdOf (u := 155) ck_X_wins (by decide +kernel)
theorem cd_156 : CdOk 156 := cdOf (u := 156) ck_X_isNoGame (by decide +kernel)
theorem cd_157 : CdOk 157 := cdOf (u := 157) ck_X_best (by decide +kernel)
theorem cd_158 : CdOk 158 := cdOf (u := 158) ck_X_lasts (by decide +kernel)
theorem cd_159 : CdOk 159 := cdOf (u := 159) ck_X_habits (by decide +kernel)
theorem cd_160 : CdOk 160 := cdOf (u := 160) ck_X_look (by decide +kernel)
theorem cd_161 : CdOk 161 := cdOf (u := 161) ck_X_carried (by decide +kernel)
theorem cd_162 : CdOk 162 := cdOf (u := 162) ck_X_changes (by decide +kernel)
theorem cd_163 : CdOk 163 := cdOf (u := 163) ck_X_covers (by decide +kernel)
theorem cd_164 : CdOk 164 := cdOf (u := 164) ck_X_chance (by decide +kernel)
theorem cd_165 : CdOk 165 := cdOf (u := 165) ck_X_latest (by decide +kernel)
theorem cd_166 : CdOk 166 := cdOf (u := 166) ck_X_isTray (by decide +kernel)
theorem cd_167 : CdOk 167 := cdOf (u := 167) ck_X_numbers (by decide +kernel)
theorem cd_168 : CdOk 168 := cdOf (u := 168) ck_X_write (by decide +kernel)
theorem cd_169 : CdOk 169 := cdOf (u := 169) ck_X_lists (by decide +kernel)
theorem cd_170 : CdOk 170 := cdOf (u := 170) ck_X_image (by decide +kernel)
theorem cd_171 : CdOk 171 := cdOf (u := 171) ck_X_restore (by decide +kernel)
theorem cd_172 : CdOk 172 := cdOf (u := 172) ck_X_count (by decide +kernel)
theorem cd_173 : CdOk 173 := cdOf (u := 173) ck_M_within (by decide +kernel)
theorem cd_174 : CdOk 174 := cdOf (u := 174) ck_M_new (by decide +kernel)
theorem cd_175 : CdOk 175 := cdOf (u := 175) ck_M_plain (by decide +kernel)
theorem cd_176 : CdOk 176 := cdOf (u := 176) ck_M_feed (by decide +kernel)
theorem cd_177 : CdOk 177 := cdOf (u := 177) ck_M_see (by decide +kernel)
theorem cd_178 : CdOk 178 := cdOf (u := 178) ck_M_isSmall (by decide +kernel)
theorem cd_179 : CdOk 179 := cdOf (u := 179) ck_M_isDigit (by decide +kernel)
theorem cd_180 : CdOk 180 := cdOf (u := 180) ck_M_keyAt (by decide +kernel)
theorem cd_181 : CdOk 181 := cdOf (u := 181) ck_M_next (by decide +kernel)
theorem cd_182 : CdOk 182 := cdOf (u := 182) ck_M_fails (by decide +kernel)
theorem cd_183 : CdOk 183 := cdOf (u := 183) ck_M_is (by decide +kernel)
theorem cd_184 : CdOk 184 := cdOf (u := 184) ck_M_eats (by decide +kernel)
theorem cd_185 : CdOk 185 := cdOf (u := 185) ck_M_takes (by decide +kernel)
theorem cd_186 : CdOk 186 := cdOf (u := 186) ck_M_isIn (by decide +kernel)
theorem cd_187 : CdOk 187 := cdOf (u := 187) ck_M_wordOf (by decide +kernel)
theorem cd_188 : CdOk 188 := cdOf (u := 188) ck_M_codes (by decide +kernel)
theorem cd_189 : CdOk 189 := cdOf (u := 189) ck_M_goesIn (by decide +kernel)
theorem cd_190 : CdOk 190 := cdOf (u := 190) ck_M_readAtom (by decide +kernel)
theorem cd_191 : CdOk 191 := cdOf (u := 191) ck_M_readTerm (by decide +kernel)
theorem cd_192 : CdOk 192 := cdOf (u := 192) ck_M_readSum (by decide +kernel)
theorem cd_193 : CdOk 193 := cdOf (u := 193) ck_M_readUnit (by decide +kernel)
theorem cd_194 : CdOk 194 := cdOf (u := 194) ck_M_readBoth (by decide +kernel)
theorem cd_195 : CdOk 195 := cdOf (u := 195) ck_M_readTruth (by decide +kernel)
theorem cd_196 : CdOk 196 := cdOf (u := 196) ck_M_readRow (by decide +kernel)
theorem cd_197 : CdOk 197 := cdOf (u := 197) ck_M_readHand (by decide +kernel)
theorem cd_198 : CdOk 198 := cdOf (u := 198) ck_M_readDrawn (by decide +kernel)
theorem cd_199 : CdOk 199 := cdOf (u := 199) ck_M_readLaw (by decide +kernel)
theorem cd_200 : CdOk 200 := cdOf (u := 200) ck_M_readLine (by decide +kernel)
theorem cd_201 : CdOk 201 := cdOf (u := 201) ck_M_ends1 (by decide +kernel)
theorem cd_202 : CdOk 202 := cdOf (u := 202) ck_M_sheet (by decide +kernel)
theorem cd_203 : CdOk 203 := cdOf (u := 203) ck_M_fault (by decide +kernel)
theorem cd_204 : CdOk 204 := cdOf (u := 204) ck_M_cells (by decide +kernel)
theorem cd_205 : CdOk 205 := cdOf (u := 205) ck_M_isCell (by decide +kernel)
theorem cd_206 : CdOk 206 := cdOf (u := 206) ck_M_isHand (by decide +kernel)
theorem cd_207 : CdOk 207 := cdOf (u := 207) ck_M_bitsOf (by decide +kernel)
theorem cd_208 : CdOk 208 := cdOf (u := 208) ck_M_everyCell (by decide +kernel)
theorem cd_209 : CdOk 209 := cdOf (u := 209) ck_M_apart (by decide +kernel)
theorem cd_210 : CdOk 210 := cdOf (u := 210) ck_M_farOf (by decide +kernel)
theorem cd_211 : CdOk 211 := cdOf (u := 211) ck_M_nearOf (by decide +kernel)
theorem cd_212 : CdOk 212 := cdOf (u := 212) ck_M_between (by decide +kernel)
theorem cd_213 : CdOk 213 := cdOf (u := 213) ck_M_reckons (by decide +kernel)
theorem cd_214 : CdOk 214 := cdOf (u := 214) ck_M_mayDraw (by decide +kernel)
theorem cd_215 : CdOk 215 := cdOf (u := 215) ck_M_oddsOf (by decide +kernel)
theorem cd_216 : CdOk 216 := cdOf (u := 216) ck_M_oddsAll (by decide +kernel)
theorem cd_217 : CdOk 217 := cdOf (u := 217) ck_M_isFound (by decide +kernel)
theorem cd_218 : CdOk 218 := cdOf (u := 218) ck_M_mayNow (by decide +kernel)
theorem cd_219 : CdOk 219 := cdOf (u := 219) ck_M_handsOf (by decide +kernel)
theorem cd_220 : CdOk 220 := cdOf (u := 220) ck_M_cellsOf (by decide +kernel)
theorem cd_221 : CdOk 221 := cdOf (u := 221) ck_M_cell (by decide +kernel)
theorem cd_222 : CdOk 222 := cdOf (u := 222) ck_M_hand (by decide +kernel)
theorem cd_223 : CdOk 223 := cdOf (u := 223) ck_M_keeps (by decide +kernel)
theorem cd_224 : CdOk 224 := cdOf (u := 224) ck_M_isAgain (by decide +kernel)
theorem cd_225 : CdOk 225 := cdOf (u := 225) ck_M_notes (by decide +kernel)
theorem cd_226 : CdOk 226 := cdOf (u := 226) ck_M_whyStroke (by decide +kernel)
theorem cd_227 : CdOk 227 := cdOf (u := 227) ck_M_whyRub (by decide +kernel)
theorem cd_228 : CdOk 228 := cdOf (u := 228) ck_M_whyHide (by decide +kernel)
theorem cd_229 : CdOk 229 := cdOf (u := 229) ck_M_draws (by decide +kernel)
theorem cd_230 : CdOk 230 := cdOf (u := 230) ck_M_rubs (by decide +kernel)
theorem cd_231 : CdOk 231 := cdOf (u := 231) ck_M_leftNow (by decide +kernel)
theorem cd_232 : CdOk 232 := cdOf (u := 232) ck_M_stroke (by decide +kernel)
theorem cd_233 : CdOk 233 := cdOf (u := 233) ck_M_rub (by decide +kernel)
theorem cd_234 : CdOk 234 := cdOf (u := 234) ck_M_habit (by decide +kernel)
theorem cd_235 : CdOk 235 := cdOf (u := 235) ck_M_hide (by decide +kernel)
theorem cd_236 : CdOk 236 := cdOf (u := 236) ck_M_undo (by decide +kernel)
theorem cd_237 : CdOk 237 := cdOf (u := 237) ck_M_whyNot (by decide +kernel)
theorem cd_238 : CdOk 238 := cdOf (u := 238) ck_M_does (by decide +kernel)
theorem cd_239 : CdOk 239 := cdOf (u := 239) ck_M_tells (by decide +kernel)
theorem cd_240 : CdOk 240 := cdOf (u := 240) ck_M_noTray (by decide +kernel)
theorem cd_241 : CdOk 241 := cdOf (u := 241) ck_M_judge (by decide +kernel)
theorem cd_242 : CdOk 242 := cdOf (u := 242) ck_M_perform (by decide +kernel)
theorem cd_243 : CdOk 243 := cdOf (u := 243) ck_M_draw (by decide +kernel)
theorem cd_244 : CdOk 244 := cdOf (u := 244) ck_M_drawnDeed (by decide +kernel)
theorem cd_245 : CdOk 245 := cdOf (u := 245) ck_M_night (by decide +kernel)
theorem cd_246 : CdOk 246 := cdOf (u := 246) ck_M_standOf (by decide +kernel)
theorem cd_247 : CdOk 247 := cdOf (u := 247) ck_M_standNow (by decide +kernel)
theorem cd_248 : CdOk 248 := cdOf (u := 248) ck_M_canBe (by decide +kernel)
theorem cd_249 : CdOk 249 := cdOf (u := 249) ck_M_laysMays (by decide +kernel)
theorem cd_250 : CdOk 250 := cdOf (u := 250) ck_M_behindStroke (by decide +kernel)
theorem cd_251 : CdOk 251 := cdOf (u := 251) ck_M_stillBy (by decide +kernel)
theorem cd_252 : CdOk 252 := cdOf (u := 252) ck_M_stillAt (by decide +kernel)
theorem cd_253 : CdOk 253 := cdOf (u := 253) ck_M_laysStill (by decide +kernel)
theorem cd_254 : CdOk 254 := cdOf (u := 254) ck_M_laysRow (by decide +kernel)
theorem cd_255 : CdOk 255 := cdOf (u := 255) ck_M_noGoal (by decide +kernel)
theorem cd_256 : CdOk 256 := cdOf (u := 256) ck_M_longest (by decide +kernel)
theorem cd_257 : CdOk 257 := cdOf (u := 257) ck_M_rowAt (by decide +kernel)
theorem cd_258 : CdOk 258 := cdOf (u := 258) ck_M_longWay (by decide +kernel)
theorem cd_259 : CdOk 259 := cdOf (u := 259) ck_M_stuck (by decide +kernel)
theorem cd_260 : CdOk 260 := cdOf (u := 260) ck_M_stuckWay (by decide +kernel)
theorem cd_261 : CdOk 261 := cdOf (u := 261) ck_M_soonest (by decide +kernel)
theorem cd_262 : CdOk 262 := cdOf (u := 262) ck_M_way (by decide +kernel)
theorem cd_263 : CdOk 263 := cdOf (u := 263) ck_M_laysMany (by decide +kernel)
theorem cd_264 : CdOk 264 := cdOf (u := 264) ck_M_reachBut (by decide +kernel)
theorem cd_265 : CdOk 265 := cdOf (u := 265) ck_M_reach (by decide +kernel)
theorem cd_266 : CdOk 266 := cdOf (u := 266) ck_M_ahead (by decide +kernel)
theorem cd_267 : CdOk 267 := cdOf (u := 267) ck_M_rows (by decide +kernel)
theorem cd_268 : CdOk 268 := cdOf (u := 268) ck_M_ends (by decide +kernel)
theorem cd_269 : CdOk 269 := cdOf (u := 269) ck_M_common (by decide +kernel)
theorem cd_270 : CdOk 270 := cdOf (u := 270) ck_M_part (by decide +kernel)
theorem cd_271 : CdOk 271 := cdOf (u := 271) ck_M_likely (by decide +kernel)
theorem cd_272 : CdOk 272 := cdOf (u := 272) ck_M_laysSafest (by decide +kernel)
theorem cd_273 : CdOk 273 := cdOf (u := 273) ck_M_safeBy (by decide +kernel)
theorem cd_274 : CdOk 274 := cdOf (u := 274) ck_M_safest (by decide +kernel)
theorem cd_275 : CdOk 275 := cdOf (u := 275) ck_M_likeliest (by decide +kernel)
theorem cd_276 : CdOk 276 := cdOf (u := 276) ck_M_gameBy (by decide +kernel)
theorem cd_277 : CdOk 277 := cdOf (u := 277) ck_M_gameAt (by decide +kernel)
theorem cd_278 : CdOk 278 := cdOf (u := 278) ck_M_mayAt (by decide +kernel)
theorem cd_279 : CdOk 279 := cdOf (u := 279) ck_M_laysGame (by decide +kernel)
theorem cd_280 : CdOk 280 := cdOf (u := 280) ck_M_isGame (by decide +kernel)
theorem cd_281 : CdOk 281 := cdOf (u := 281) ck_M_wins (by decide +kernel)
theorem cd_282 : CdOk 282 := cdOf (u := 282) ck_M_best (by decide +kernel)
theorem cd_283 : CdOk 283 := cdOf (u := 283) ck_M_lasts (by decide +kernel)
theorem cd_284 : CdOk 284 := cdOf (u := 284) ck_M_noSeen (by decide +kernel)
theorem cd_285 : CdOk 285 := cdOf (u := 285) ck_M_noSeenBy (by decide +kernel)
theorem cd_286 : CdOk 286 := cdOf (u := 286) ck_M_mayAs (by decide +kernel)
theorem cd_287 : CdOk 287 := cdOf (u := 287) ck_M_habitsOf (by decide +kernel)
theorem cd_288 : CdOk 288 := cdOf (u := 288) ck_M_habits (by decide +kernel)
theorem cd_289 : CdOk 289 := cdOf (u := 289) ck_M_mayBy (by decide +kernel)
theorem cd_290 : CdOk 290 := cdOf (u := 290) ck_M_look (by decide +kernel)
theorem cd_291 : CdOk 291 := cdOf (u := 291) ck_M_handsAs (by decide +kernel)
theorem cd_292 : CdOk 292 := cdOf (u := 292) ck_M_carried (by decide +kernel)
theorem cd_293 : CdOk 293 := cdOf (u := 293) ck_M_fewBy (by decide +kernel)
theorem cd_294 : CdOk 294 := cdOf (u := 294) ck_M_laysFew (by decide +kernel)
theorem cd_295 : CdOk 295 := cdOf (u := 295) ck_M_changes (by decide +kernel)
theorem cd_296 : CdOk 296 := cdOf (u := 296) ck_M_covers (by decide +kernel)
theorem cd_297 : CdOk 297 := cdOf (u := 297) ck_M_wholeOf (by decide +kernel)
theorem cd_298 : CdOk 298 := cdOf (u := 298) ck_M_chanceOf (by decide +kernel)
theorem cd_299 : CdOk 299 := cdOf (u := 299) ck_M_commonOf (by decide +kernel)
theorem cd_300 : CdOk 300 := cdOf (u := 300) ck_M_chance (by decide +kernel)
theorem cd_301 : CdOk 301 := cdOf (u := 301) ck_M_latest (by decide +kernel)
theorem cd_302 : CdOk 302 := cdOf (u := 302) ck_M_cut (by decide +kernel)
theorem cd_303 : CdOk 303 := cdOf (u := 303) ck_M_numbers (by decide +kernel)
theorem cd_304 : CdOk 304 := cdOf (u := 304) ck_M_write (by decide +kernel)
theorem cd_305 : CdOk 305 := cdOf (u := 305) ck_M_lists (by decide +kernel)
theorem cd_306 : CdOk 306 := cdOf (u := 306) ck_M_image (by decide +kernel)
theorem cd_307 : CdOk 307 := cdOf (u := 307) ck_M_restore (by decide +kernel)
theorem cd_308 : CdOk 308 := cdOf (u := 308) ck_M_count (by decide +kernel)
theorem cd_309 : CdOk 309 := cdOf (u := 309) ck_In_bitCount (by decide +kernel)
theorem cd_310 : CdOk 310 := cdOf (u := 310) ck_St_length (by decide +kernel)
theorem cd_311 : CdOk 311 := cdOf (u := 311) ck_St_charAt (by decide +kernel)
theorem cd_312 : CdOk 312 := cdOf (u := 312) ck_St_indexOf (by decide +kernel)
theorem cd_313 : CdOk 313 := cdOf (u := 313) ck_St_indexOf2 (by decide +kernel)
theorem cd_314 : CdOk 314 := cdOf (u := 314) ck_St_coder (by decide +kernel)
theorem cd_315 : CdOk 315 := cdOf (u := 315) ck_St_isLatin1 (by decide +kernel)
theorem cd_316 : CdOk 316 := cdOf (u := 316) ck_St_checkIndex (by decide +kernel)
theorem cd_317 : CdOk 317 := cdOf (u := 317) ck_S1_charAt (by decide +kernel)
theorem cd_318 : CdOk 318 := cdOf (u := 318) ck_S1_canEncode (by decide +kernel)
theorem cd_319 : CdOk 319 := cdOf (u := 319) ck_S1_indexOf (by decide +kernel)
theorem cd_320 : CdOk 320 := cdOf (u := 320) ck_S1_indexOfChar (by decide +kernel)
theorem cd_321 : CdOk 321 := cdOf (u := 321) ck_Ar_fill (by decide +kernel)
theorem cd_322 : CdOk 322 := cdOf (u := 322) ck_Ar_fill2 (by decide +kernel)
theorem cd_323 : CdOk 323 := cdOf (u := 323) ck_Ar_copyOf (by decide +kernel)
theorem cd_324 : CdOk 324 := cdOf (u := 324) ck_Pr_checkIndex (by decide +kernel)
theorem cd_325 : CdOk 325 := cdOf (u := 325) ck_Pr_checkFromToIndex (by decide +kernel)
theorem cd_326 : CdOk 326 := cdOf (u := 326) ck_L_law (by decide +kernel)
theorem cdb_0 {u : Nat} (h1 : 0 ≤ u) (h2 : u < 30) : CdOk u := by
  have h : u = 0 ∨ u = 1 ∨ u = 2 ∨ u = 3 ∨ u = 4 ∨ u = 5 ∨ u = 6 ∨ u = 7 ∨ u = 8 ∨ u = 9 ∨ u = 10 ∨ u = 11 ∨ u = 12 ∨ u = 13 ∨ u = 14 ∨ u = 15 ∨ u = 16 ∨ u = 17 ∨ u = 18 ∨ u = 19 ∨ u = 20 ∨ u = 21 ∨ u = 22 ∨ u = 23 ∨ u = 24 ∨ u = 25 ∨ u = 26 ∨ u = 27 ∨ u = 28 ∨ u = 29 := by omega
  rcases h with rfl | rfl | rfl | rfl | rfl | rfl | rfl | rfl | rfl | rfl | rfl | rfl | rfl | rfl | rfl | rfl | rfl | rfl | rfl | rfl | rfl | rfl | rfl | rfl | rfl | rfl | rfl | rfl | rfl | rfl
  · exact cdq_0
  · exact cd_1
  · exact cd_2
  · exact cd_3
  · exact cd_4
  · exact cd_5
  · exact cd_6
  · exact cd_7
  · exact cd_8
  · exact cd_9
  · exact cd_10
  · exact cd_11
  · exact cd_12
  · exact cd_13
  · exact cd_14
  · exact cd_15
  · exact cd_16
  · exact cd_17
  · exact cd_18
  · exact cd_19
  · exact cd_20
  · exact cd_21
  · exact cd_22
  · exact cd_23
  · exact cd_24
  · exact cd_25
  · exact cd_26
  · exact cd_27
  · exact cd_28
  · exact cd_29
theorem cdb_1 {u : Nat} (h1 : 30 ≤ u) (h2 : u < 60) : CdOk u := by
  have h : u = 30 ∨ u = 31 ∨ u = 32 ∨ u = 33 ∨ u = 34 ∨ u = 35 ∨ u = 36 ∨ u = 37 ∨ u = 38 ∨ u = 39 ∨ u = 40 ∨ u = 41 ∨ u = 42 ∨ u = 43 ∨ u = 44 ∨ u = 45 ∨ u = 46 ∨ u = 47 ∨ u = 48 ∨ u = 49 ∨ u = 50 ∨ u = 51 ∨ u = 52 ∨ u = 53 ∨ u = 54 ∨ u = 55 ∨ u = 56 ∨ u = 57 ∨ u = 58 ∨ u = 59 := by omega
  rcases h with rfl | rfl | rfl | rfl | rfl | rfl | rfl | rfl | rfl | rfl | rfl | rfl | rfl | rfl | rfl | rfl | rfl | rfl | rfl | rfl | rfl | rfl | rfl | rfl | rfl | rfl | rfl | rfl | rfl | rfl
  · exact cd_30
  · exact cd_31
  · exact cd_32
  · exact cd_33
  · exact cd_34
  · exact cd_35
  · exact cd_36
  · exact cd_37
  · exact cd_38
  · exact cd_39
  · exact cd_40
  · exact cd_41
  · exact cd_42
  · exact cd_43
  · exact cd_44
  · exact cd_45
  · exact cd_46
  · exact cd_47
  · exact cd_48
  · exact cd_49
  · exact cd_50
  · exact cd_51
  · exact cd_52
  · exact cd_53
  · exact cd_54
  · exact cd_55
  · exact cd_56
  · exact cd_57
  · exact cd_58
  · exact cd_59
theorem cdb_2 {u : Nat} (h1 : 60 ≤ u) (h2 : u < 90) : CdOk u := by
  have h : u = 60 ∨ u = 61 ∨ u = 62 ∨ u = 63 ∨ u = 64 ∨ u = 65 ∨ u = 66 ∨ u = 67 ∨ u = 68 ∨ u = 69 ∨ u = 70 ∨ u = 71 ∨ u = 72 ∨ u = 73 ∨ u = 74 ∨ u = 75 ∨ u = 76 ∨ u = 77 ∨ u = 78 ∨ u = 79 ∨ u = 80 ∨ u = 81 ∨ u = 82 ∨ u = 83 ∨ u = 84 ∨ u = 85 ∨ u = 86 ∨ u = 87 ∨ u = 88 ∨ u = 89 := by omega
  rcases h with rfl | rfl | rfl | rfl | rfl | rfl | rfl | rfl | rfl | rfl | rfl | rfl | rfl | rfl | rfl | rfl | rfl | rfl | rfl | rfl | rfl | rfl | rfl | rfl | rfl | rfl | rfl | rfl | rfl | rfl
  · exact cd_60
  · exact cd_61
  · exact cd_62
  · exact cd_63
  · exact cd_64
  · exact cd_65
  · exact cd_66
  · exact cd_67
  · exact cd_68
  · exact cd_69
  · exact cd_70
  · exact cd_71
  · exact cd_72
  · exact cd_73
  · exact cd_74
  · exact cd_75
  · exact cd_76
  · exact cd_77
  · exact cd_78
  · exact cd_79
  · exact cd_80
  · exact cd_81
  · exact cd_82
  · exact cd_83
  · exact cd_84
  · exact cd_85
  · exact cd_86
  · exact cd_87
  · exact cd_88
  · exact cd_89
theorem cdb_3 {u : Nat} (h1 : 90 ≤ u) (h2 : u < 120) : CdOk u := by
  have h : u = 90 ∨ u = 91 ∨ u = 92 ∨ u = 93 ∨ u = 94 ∨ u = 95 ∨ u = 96 ∨ u = 97 ∨ u = 98 ∨ u = 99 ∨ u = 100 ∨ u = 101 ∨ u = 102 ∨ u = 103 ∨ u = 104 ∨ u = 105 ∨ u = 106 ∨ u = 107 ∨ u = 108 ∨ u = 109 ∨ u = 110 ∨ u = 111 ∨ u = 112 ∨ u = 113 ∨ u = 114 ∨ u = 115 ∨ u = 116 ∨ u = 117 ∨ u = 118 ∨ u = 119 := by omega
  rcases h with rfl | rfl | rfl | rfl | rfl | rfl | rfl | rfl | rfl | rfl | rfl | rfl | rfl | rfl | rfl | rfl | rfl | rfl | rfl | rfl | rfl | rfl | rfl | rfl | rfl | rfl | rfl | rfl | rfl | rfl
  · exact cd_90
  · exact cd_91
  · exact cd_92
  · exact cd_93
  · exact cd_94
  · exact cd_95
  · exact cd_96
  · exact cd_97
  · exact cd_98
  · exact cd_99
  · exact cd_100
  · exact cd_101
  · exact cd_102
  · exact cd_103
  · exact cd_104
  · exact cd_105
  · exact cd_106
  · exact cd_107
  · exact cd_108
  · exact cd_109
  · exact cd_110
  · exact cd_111
  · exact cd_112
  · exact cd_113
  · exact cd_114
  · exact cd_115
  · exact cd_116
  · exact cd_117
  · exact cd_118
  · exact cd_119
theorem cdb_4 {u : Nat} (h1 : 120 ≤ u) (h2 : u < 150) : CdOk u := by
  have h : u = 120 ∨ u = 121 ∨ u = 122 ∨ u = 123 ∨ u = 124 ∨ u = 125 ∨ u = 126 ∨ u = 127 ∨ u = 128 ∨ u = 129 ∨ u = 130 ∨ u = 131 ∨ u = 132 ∨ u = 133 ∨ u = 134 ∨ u = 135 ∨ u = 136 ∨ u = 137 ∨ u = 138 ∨ u = 139 ∨ u = 140 ∨ u = 141 ∨ u = 142 ∨ u = 143 ∨ u = 144 ∨ u = 145 ∨ u = 146 ∨ u = 147 ∨ u = 148 ∨ u = 149 := by omega
  rcases h with rfl | rfl | rfl | rfl | rfl | rfl | rfl | rfl | rfl | rfl | rfl | rfl | rfl | rfl | rfl | rfl | rfl | rfl | rfl | rfl | rfl | rfl | rfl | rfl | rfl | rfl | rfl | rfl | rfl | rfl
  · exact cd_120
  · exact cd_121
  · exact cd_122
  · exact cd_123
  · exact cd_124
  · exact cd_125
  · exact cd_126
  · exact cd_127
  · exact cd_128
  · exact cd_129
  · exact cd_130
  · exact cd_131
  · exact cd_132
  · exact cd_133
  · exact cd_134
  · exact cd_135
  · exact cd_136
  · exact cd_137
  · exact cd_138
  · exact cd_139
  · exact cd_140
  · exact cd_141
  · exact cd_142
  · exact cd_143
  · exact cd_144
  · exact cd_145
  · exact cd_146
  · exact cd_147
  · exact cd_148
  · exact cd_149
theorem cdb_5 {u : Nat} (h1 : 150 ≤ u) (h2 : u < 180) : CdOk u := by
  have h : u = 150 ∨ u = 151 ∨ u = 152 ∨ u = 153 ∨ u = 154 ∨ u = 155 ∨ u = 156 ∨ u = 157 ∨ u = 158 ∨ u = 159 ∨ u = 160 ∨ u = 161 ∨ u = 162 ∨ u = 163 ∨ u = 164 ∨ u = 165 ∨ u = 166 ∨ u = 167 ∨ u = 168 ∨ u = 169 ∨ u = 170 ∨ u = 171 ∨ u = 172 ∨ u = 173 ∨ u = 174 ∨ u = 175 ∨ u = 176 ∨ u = 177 ∨ u = 178 ∨ u = 179 := by omega
  rcases h with rfl | rfl | rfl | rfl | rfl | rfl | rfl | rfl | rfl | rfl | rfl | rfl | rfl | rfl | rfl | rfl | rfl | rfl | rfl | rfl | rfl | rfl | rfl | rfl | rfl | rfl | rfl | rfl | rfl | rfl
  · exact cd_150
  · exact cd_151
  · exact cd_152
  · exact cd_153
  · exact cd_154
  · exact cd_155
  · exact cd_156
  · exact cd_157
  · exact cd_158
  · exact cd_159
  · exact cd_160
  · exact cd_161
  · exact cd_162
  · exact cd_163
  · exact cd_164
  · exact cd_165
  · exact cd_166
  · exact cd_167
  · exact cd_168
  · exact cd_169
  · exact cd_170
  · exact cd_171
  · exact cd_172
  · exact cd_173
  · exact cd_174
  · exact cd_175
  · exact cd_176
  · exact cd_177
  · exact cd_178
  · exact cd_179
theorem cdb_6 {u : Nat} (h1 : 180 ≤ u) (h2 : u < 210) : CdOk u := by
  have h : u = 180 ∨ u = 181 ∨ u = 182 ∨ u = 183 ∨ u = 184 ∨ u = 185 ∨ u = 186 ∨ u = 187 ∨ u = 188 ∨ u = 189 ∨ u = 190 ∨ u = 191 ∨ u = 192 ∨ u = 193 ∨ u = 194 ∨ u = 195 ∨ u = 196 ∨ u = 197 ∨ u = 198 ∨ u = 199 ∨ u = 200 ∨ u = 201 ∨ u = 202 ∨ u = 203 ∨ u = 204 ∨ u = 205 ∨ u = 206 ∨ u = 207 ∨ u = 208 ∨ u = 209 := by omega
  rcases h with rfl | rfl | rfl | rfl | rfl | rfl | rfl | rfl | rfl | rfl | rfl | rfl | rfl | rfl | rfl | rfl | rfl | rfl | rfl | rfl | rfl | rfl | rfl | rfl | rfl | rfl | rfl | rfl | rfl | rfl
  · exact cd_180
  · exact cd_181
  · exact cd_182
  · exact cd_183
  · exact cd_184
  · exact cd_185
  · exact cd_186
  · exact cd_187
  · exact cd_188
  · exact cd_189
  · exact cd_190
  · exact cd_191
  · exact cd_192
  · exact cd_193
  · exact cd_194
  · exact cd_195
  · exact cd_196
  · exact cd_197
  · exact cd_198
  · exact cd_199
  · exact cd_200
  · exact cd_201
  · exact cd_202
  · exact cd_203
  · exact cd_204
  · exact cd_205
  · exact cd_206
  · exact cd_207
  · exact cd_208
  · exact cd_209
theorem cdb_7 {u : Nat} (h1 : 210 ≤ u) (h2 : u < 240) : CdOk u := by
  have h : u = 210 ∨ u = 211 ∨ u = 212 ∨ u = 213 ∨ u = 214 ∨ u = 215 ∨ u = 216 ∨ u = 217 ∨ u = 218 ∨ u = 219 ∨ u = 220 ∨ u = 221 ∨ u = 222 ∨ u = 223 ∨ u = 224 ∨ u = 225 ∨ u = 226 ∨ u = 227 ∨ u = 228 ∨ u = 229 ∨ u = 230 ∨ u = 231 ∨ u = 232 ∨ u = 233 ∨ u = 234 ∨ u = 235 ∨ u = 236 ∨ u = 237 ∨ u = 238 ∨ u = 239 := by omega
  rcases h with rfl | rfl | rfl | rfl | rfl | rfl | rfl | rfl | rfl | rfl | rfl | rfl | rfl | rfl | rfl | rfl | rfl | rfl | rfl | rfl | rfl | rfl | rfl | rfl | rfl | rfl | rfl | rfl | rfl | rfl
  · exact cd_210
  · exact cd_211
  · exact cd_212
  · exact cd_213
  · exact cd_214
  · exact cd_215
  · exact cd_216
  · exact cd_217
  · exact cd_218
  · exact cd_219
  · exact cd_220
  · exact cd_221
  · exact cd_222
  · exact cd_223
  · exact cd_224
  · exact cd_225
  · exact cd_226
  · exact cd_227
  · exact cd_228
  · exact cd_229
  · exact cd_230
  · exact cd_231
  · exact cd_232
  · exact cd_233
  · exact cd_234
  · exact cd_235
  · exact cd_236
  · exact cd_237
  · exact cd_238
  · exact cd_239
theorem cdb_8 {u : Nat} (h1 : 240 ≤ u) (h2 : u < 270) : CdOk u := by
  have h : u = 240 ∨ u = 241 ∨ u = 242 ∨ u = 243 ∨ u = 244 ∨ u = 245 ∨ u = 246 ∨ u = 247 ∨ u = 248 ∨ u = 249 ∨ u = 250 ∨ u = 251 ∨ u = 252 ∨ u = 253 ∨ u = 254 ∨ u = 255 ∨ u = 256 ∨ u = 257 ∨ u = 258 ∨ u = 259 ∨ u = 260 ∨ u = 261 ∨ u = 262 ∨ u = 263 ∨ u = 264 ∨ u = 265 ∨ u = 266 ∨ u = 267 ∨ u = 268 ∨ u = 269 := by omega
  rcases h with rfl | rfl | rfl | rfl | rfl | rfl | rfl | rfl | rfl | rfl | rfl | rfl | rfl | rfl | rfl | rfl | rfl | rfl | rfl | rfl | rfl | rfl | rfl | rfl | rfl | rfl | rfl | rfl | rfl | rfl
  · exact cd_240
  · exact cd_241
  · exact cd_242
  · exact cd_243
  · exact cd_244
  · exact cd_245
  · exact cd_246
  · exact cd_247
  · exact cd_248
  · exact cd_249
  · exact cd_250
  · exact cd_251
  · exact cd_252
  · exact cd_253
  · exact cd_254
  · exact cd_255
  · exact cd_256
  · exact cd_257
  · exact cd_258
  · exact cd_259
  · exact cd_260
  · exact cd_261
  · exact cd_262
  · exact cd_263
  · exact cd_264
  · exact cd_265
  · exact cd_266
  · exact cd_267
  · exact cd_268
  · exact cd_269
theorem cdb_9 {u : Nat} (h1 : 270 ≤ u) (h2 : u < 300) : CdOk u := by
  have h : u = 270 ∨ u = 271 ∨ u = 272 ∨ u = 273 ∨ u = 274 ∨ u = 275 ∨ u = 276 ∨ u = 277 ∨ u = 278 ∨ u = 279 ∨ u = 280 ∨ u = 281 ∨ u = 282 ∨ u = 283 ∨ u = 284 ∨ u = 285 ∨ u = 286 ∨ u = 287 ∨ u = 288 ∨ u = 289 ∨ u = 290 ∨ u = 291 ∨ u = 292 ∨ u = 293 ∨ u = 294 ∨ u = 295 ∨ u = 296 ∨ u = 297 ∨ u = 298 ∨ u = 299 := by omega
  rcases h with rfl | rfl | rfl | rfl | rfl | rfl | rfl | rfl | rfl | rfl | rfl | rfl | rfl | rfl | rfl | rfl | rfl | rfl | rfl | rfl | rfl | rfl | rfl | rfl | rfl | rfl | rfl | rfl | rfl | rfl
  · exact cd_270
  · exact cd_271
  · exact cd_272
  · exact cd_273
  · exact cd_274
  · exact cd_275
  · exact cd_276
  · exact cd_277
  · exact cd_278
  · exact cd_279
  · exact cd_280
  · exact cd_281
  · exact cd_282
  · exact cd_283
  · exact cd_284
  · exact cd_285
  · exact cd_286
  · exact cd_287
  · exact cd_288
  · exact cd_289
  · exact cd_290
  · exact cd_291
  · exact cd_292
  · exact cd_293
  · exact cd_294
  · exact cd_295
  · exact cd_296
  · exact cd_297
  · exact cd_298
  · exact cd_299
theorem cdb_10 {u : Nat} (h1 : 300 ≤ u) (h2 : u < 326) : CdOk u := by
  have h : u = 300 ∨ u = 301 ∨ u = 302 ∨ u = 303 ∨ u = 304 ∨ u = 305 ∨ u = 306 ∨ u = 307 ∨ u = 308 ∨ u = 309 ∨ u = 310 ∨ u = 311 ∨ u = 312 ∨ u = 313 ∨ u = 314 ∨ u = 315 ∨ u = 316 ∨ u = 317 ∨ u = 318 ∨ u = 319 ∨ u = 320 ∨ u = 321 ∨ u = 322 ∨ u = 323 ∨ u = 324 ∨ u = 325 := by omega
  rcases h with rfl | rfl | rfl | rfl | rfl | rfl | rfl | rfl | rfl | rfl | rfl | rfl | rfl | rfl | rfl | rfl | rfl | rfl | rfl | rfl | rfl | rfl | rfl | rfl | rfl | rfl
  · exact cd_300
  · exact cd_301
  · exact cd_302
  · exact cd_303
  · exact cd_304
  · exact cd_305
  · exact cd_306
  · exact cd_307
  · exact cd_308
  · exact cd_309
  · exact cd_310
  · exact cd_311
  · exact cd_312
  · exact cd_313
  · exact cd_314
  · exact cd_315
  · exact cd_316
  · exact cd_317
  · exact cd_318
  · exact cd_319
  · exact cd_320
  · exact cd_321
  · exact cd_322
  · exact cd_323
  · exact cd_324
  · exact cd_325
theorem cd_all : ∀ u, u < 326 → CdOk u := by
  intro u hu
  by_cases h0 : u < 30
  · exact cdb_0 (by omega) h0
  by_cases h1 : u < 60
  · exact cdb_1 (by omega) h1
  by_cases h2 : u < 90
  · exact cdb_2 (by omega) h2
  by_cases h3 : u < 120
  · exact cdb_3 (by omega) h3
  by_cases h4 : u < 150
  · exact cdb_4 (by omega) h4
  by_cases h5 : u < 180
  · exact cdb_5 (by omega) h5
  by_cases h6 : u < 210
  · exact cdb_6 (by omega) h6
  by_cases h7 : u < 240
  · exact cdb_7 (by omega) h7
  by_cases h8 : u < 270
  · exact cdb_8 (by omega) h8
  by_cases h9 : u < 300
  · exact cdb_9 (by omega) h9
  by_cases h10 : u < 326
  · exact cdb_10 (by omega) h10
  omega
