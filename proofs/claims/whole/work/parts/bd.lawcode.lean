/-! The law's wrappers: codes -/
def kpRL : qK := ([(7, 1, 2, 1), (15, 1, 3, 1), (18, 1, 4, 1), (21, 1, 5, 1), (24, 1, 8, 1), (27, 1, 9, 2), (33, 1, 10, 2), (36, 1, 11, 2), (39, 1, 12, 2), (42, 1, 13, 8), (46, 1, 14, 1), (49, 1, 15, 2), (52, 1, 16, 1), (55, 1, 17, 1), (58, 1, 18, 1), (62, 1, 19, 2), (65, 1, 20, 3), (69, 1, 21, 1), (72, 1, 22, 1), (75, 1, 23, 4), (79, 1, 24, 3), (82, 1, 25, 1), (85, 1, 26, 1), (88, 1, 27, 1), (91, 1, 28, 4), (94, 1, 29, 6)], [], [], [])
theorem keRL_0 : q_cpok q_mt "BlockedCarsLaw" (7, 1, 2, 1) := ⟨(yX10_yard, cX10_yard, 3, (some .int)), rfl, q_TB_in (q_mt2 (List.mem_of_getElem? (i := 168) rfl)) rfl, q_TB_in (q_mt2 (List.mem_of_getElem? (i := 169) rfl)) rfl, q_TB_in (q_mt2 (List.mem_of_getElem? (i := 170) rfl)) rfl, q_TB_in (q_mt1 (List.mem_of_getElem? (i := 1) rfl)) rfl, q_TB_in (q_mt2 (List.mem_of_getElem? (i := 171) rfl)) rfl, ⟨by decide, by decide, by decide +kernel⟩, by decide⟩
theorem keRL_1 : q_cpok q_mt "BlockedCarsLaw" (15, 1, 3, 1) := ⟨(yX10_law, cX10_law, 3, (some .int)), rfl, q_TB_in (q_mt3 (List.mem_of_getElem? (i := 159) rfl)) rfl, q_TB_in (q_mt3 (List.mem_of_getElem? (i := 160) rfl)) rfl, q_TB_in (q_mt3 (List.mem_of_getElem? (i := 161) rfl)) rfl, q_TB_in (q_mt1 (List.mem_of_getElem? (i := 1) rfl)) rfl, q_TB_in (q_mt3 (List.mem_of_getElem? (i := 162) rfl)) rfl, ⟨by decide, by decide, by decide +kernel⟩, by decide⟩
theorem keRL_2 : q_cpok q_mt "BlockedCarsLaw" (18, 1, 4, 1) := ⟨(yX10_work, cX10_work, 2, (some .int)), rfl, q_TB_in (q_mt3 (List.mem_of_getElem? (i := 221) rfl)) rfl, q_TB_in (q_mt3 (List.mem_of_getElem? (i := 222) rfl)) rfl, q_TB_in (q_mt3 (List.mem_of_getElem? (i := 223) rfl)) rfl, q_TB_in (q_mt1 (List.mem_of_getElem? (i := 1) rfl)) rfl, q_TB_in (q_mt3 (List.mem_of_getElem? (i := 224) rfl)) rfl, ⟨by decide, by decide, by decide +kernel⟩, by decide⟩
theorem keRL_3 : q_cpok q_mt "BlockedCarsLaw" (21, 1, 5, 1) := ⟨(yX10_spots, cX10_spots, 3, (some .int)), rfl, q_TB_in (q_mt4 (List.mem_of_getElem? (i := 162) rfl)) rfl, q_TB_in (q_mt4 (List.mem_of_getElem? (i := 163) rfl)) rfl, q_TB_in (q_mt4 (List.mem_of_getElem? (i := 164) rfl)) rfl, q_TB_in (q_mt1 (List.mem_of_getElem? (i := 1) rfl)) rfl, q_TB_in (q_mt4 (List.mem_of_getElem? (i := 165) rfl)) rfl, ⟨by decide, by decide, by decide +kernel⟩, by decide⟩
theorem keRL_4 : q_cpok q_mt "BlockedCarsLaw" (24, 1, 8, 1) := ⟨(yX10_told, cX10_told, 3, (some .int)), rfl, q_TB_in (q_mt4 (List.mem_of_getElem? (i := 186) rfl)) rfl, q_TB_in (q_mt4 (List.mem_of_getElem? (i := 187) rfl)) rfl, q_TB_in (q_mt4 (List.mem_of_getElem? (i := 188) rfl)) rfl, q_TB_in (q_mt1 (List.mem_of_getElem? (i := 1) rfl)) rfl, q_TB_in (q_mt4 (List.mem_of_getElem? (i := 189) rfl)) rfl, ⟨by decide, by decide, by decide +kernel⟩, by decide⟩
theorem keRL_5 : q_cpok q_mt "BlockedCarsLaw" (27, 1, 9, 2) := ⟨(yX10_lane, cX10_lane, 5, (some .int)), rfl, q_TB_in (q_mt4 (List.mem_of_getElem? (i := 212) rfl)) rfl, q_TB_in (q_mt4 (List.mem_of_getElem? (i := 213) rfl)) rfl, q_TB_in (q_mt4 (List.mem_of_getElem? (i := 214) rfl)) rfl, q_TB_in (q_mt1 (List.mem_of_getElem? (i := 1) rfl)) rfl, q_TB_in (q_mt4 (List.mem_of_getElem? (i := 215) rfl)) rfl, ⟨by decide, by decide, by decide +kernel⟩, by decide⟩
theorem keRL_6 : q_cpok q_mt "BlockedCarsLaw" (33, 1, 10, 2) := ⟨(yX10_car, cX10_car, 4, (some .int)), rfl, q_TB_in (q_mt5 (List.mem_of_getElem? (i := 5) rfl)) rfl, q_TB_in (q_mt5 (List.mem_of_getElem? (i := 6) rfl)) rfl, q_TB_in (q_mt5 (List.mem_of_getElem? (i := 7) rfl)) rfl, q_TB_in (q_mt1 (List.mem_of_getElem? (i := 1) rfl)) rfl, q_TB_in (q_mt5 (List.mem_of_getElem? (i := 8) rfl)) rfl, ⟨by decide, by decide, by decide +kernel⟩, by decide⟩
theorem keRL_7 : q_cpok q_mt "BlockedCarsLaw" (36, 1, 11, 2) := ⟨(yX10_on, cX10_on, 3, (some .int)), rfl, q_TB_in (q_mt5 (List.mem_of_getElem? (i := 31) rfl)) rfl, q_TB_in (q_mt5 (List.mem_of_getElem? (i := 32) rfl)) rfl, q_TB_in (q_mt5 (List.mem_of_getElem? (i := 33) rfl)) rfl, q_TB_in (q_mt1 (List.mem_of_getElem? (i := 1) rfl)) rfl, q_TB_in (q_mt5 (List.mem_of_getElem? (i := 34) rfl)) rfl, ⟨by decide, by decide, by decide +kernel⟩, by decide⟩
theorem keRL_8 : q_cpok q_mt "BlockedCarsLaw" (39, 1, 12, 2) := ⟨(yX10_seconds, cX10_seconds, 3, (some .int)), rfl, q_TB_in (q_mt5 (List.mem_of_getElem? (i := 39) rfl)) rfl, q_TB_in (q_mt5 (List.mem_of_getElem? (i := 40) rfl)) rfl, q_TB_in (q_mt5 (List.mem_of_getElem? (i := 41) rfl)) rfl, q_TB_in (q_mt1 (List.mem_of_getElem? (i := 1) rfl)) rfl, q_TB_in (q_mt5 (List.mem_of_getElem? (i := 42) rfl)) rfl, ⟨by decide, by decide, by decide +kernel⟩, by decide⟩
theorem keRL_9 : q_cpok q_mt "BlockedCarsLaw" (42, 1, 13, 8) := ⟨(yX10_would, cX10_would, 9, (some .int)), rfl, q_TB_in (q_mt5 (List.mem_of_getElem? (i := 47) rfl)) rfl, q_TB_in (q_mt5 (List.mem_of_getElem? (i := 48) rfl)) rfl, q_TB_in (q_mt5 (List.mem_of_getElem? (i := 49) rfl)) rfl, q_TB_in (q_mt1 (List.mem_of_getElem? (i := 1) rfl)) rfl, q_TB_in (q_mt5 (List.mem_of_getElem? (i := 50) rfl)) rfl, ⟨by decide, by decide, by decide +kernel⟩, by decide⟩
theorem keRL_10 : q_cpok q_mt "BlockedCarsLaw" (46, 1, 14, 1) := ⟨(yX10_ahead, cX10_ahead, 2, (some .int)), rfl, q_TB_in (q_mt5 (List.mem_of_getElem? (i := 57) rfl)) rfl, q_TB_in (q_mt5 (List.mem_of_getElem? (i := 58) rfl)) rfl, q_TB_in (q_mt5 (List.mem_of_getElem? (i := 59) rfl)) rfl, q_TB_in (q_mt1 (List.mem_of_getElem? (i := 1) rfl)) rfl, q_TB_in (q_mt5 (List.mem_of_getElem? (i := 60) rfl)) rfl, ⟨by decide, by decide, by decide +kernel⟩, by decide⟩
theorem keRL_11 : q_cpok q_mt "BlockedCarsLaw" (49, 1, 15, 2) := ⟨(yX10_frees, cX10_frees, 6, (some .int)), rfl, q_TB_in (q_mt5 (List.mem_of_getElem? (i := 68) rfl)) rfl, q_TB_in (q_mt5 (List.mem_of_getElem? (i := 69) rfl)) rfl, q_TB_in (q_mt5 (List.mem_of_getElem? (i := 70) rfl)) rfl, q_TB_in (q_mt1 (List.mem_of_getElem? (i := 1) rfl)) rfl, q_TB_in (q_mt5 (List.mem_of_getElem? (i := 71) rfl)) rfl, ⟨by decide, by decide, by decide +kernel⟩, by decide⟩
theorem keRL_12 : q_cpok q_mt "BlockedCarsLaw" (52, 1, 16, 1) := ⟨(yX10_morning, cX10_morning, 3, (some .int)), rfl, q_TB_in (q_mt5 (List.mem_of_getElem? (i := 131) rfl)) rfl, q_TB_in (q_mt5 (List.mem_of_getElem? (i := 132) rfl)) rfl, q_TB_in (q_mt5 (List.mem_of_getElem? (i := 133) rfl)) rfl, q_TB_in (q_mt1 (List.mem_of_getElem? (i := 1) rfl)) rfl, q_TB_in (q_mt5 (List.mem_of_getElem? (i := 134) rfl)) rfl, ⟨by decide, by decide, by decide +kernel⟩, by decide⟩
theorem keRL_13 : q_cpok q_mt "BlockedCarsLaw" (55, 1, 17, 1) := ⟨(yX10_corner, cX10_corner, 5, (some .int)), rfl, q_TB_in (q_mt5 (List.mem_of_getElem? (i := 138) rfl)) rfl, q_TB_in (q_mt5 (List.mem_of_getElem? (i := 139) rfl)) rfl, q_TB_in (q_mt5 (List.mem_of_getElem? (i := 140) rfl)) rfl, q_TB_in (q_mt1 (List.mem_of_getElem? (i := 1) rfl)) rfl, q_TB_in (q_mt5 (List.mem_of_getElem? (i := 141) rfl)) rfl, ⟨by decide, by decide, by decide +kernel⟩, by decide⟩
theorem keRL_14 : q_cpok q_mt "BlockedCarsLaw" (58, 1, 18, 1) := ⟨(yX10_goes, cX10_goes, 2, (some .boolean)), rfl, q_TB_in (q_mt5 (List.mem_of_getElem? (i := 148) rfl)) rfl, q_TB_in (q_mt5 (List.mem_of_getElem? (i := 149) rfl)) rfl, q_TB_in (q_mt5 (List.mem_of_getElem? (i := 150) rfl)) rfl, q_TB_in (q_mt1 (List.mem_of_getElem? (i := 1) rfl)) rfl, q_TB_in (q_mt5 (List.mem_of_getElem? (i := 151) rfl)) rfl, ⟨by decide, by decide, by decide +kernel⟩, by decide⟩
theorem keRL_15 : q_cpok q_mt "BlockedCarsLaw" (62, 1, 19, 2) := ⟨(yX10_evening, cX10_evening, 4, (some .int)), rfl, q_TB_in (q_mt5 (List.mem_of_getElem? (i := 165) rfl)) rfl, q_TB_in (q_mt5 (List.mem_of_getElem? (i := 166) rfl)) rfl, q_TB_in (q_mt5 (List.mem_of_getElem? (i := 167) rfl)) rfl, q_TB_in (q_mt1 (List.mem_of_getElem? (i := 1) rfl)) rfl, q_TB_in (q_mt5 (List.mem_of_getElem? (i := 168) rfl)) rfl, ⟨by decide, by decide, by decide +kernel⟩, by decide⟩
theorem keRL_16 : q_cpok q_mt "BlockedCarsLaw" (65, 1, 20, 3) := ⟨(yX10_sure, cX10_sure, 8, (some .int)), rfl, q_TB_in (q_mt5 (List.mem_of_getElem? (i := 185) rfl)) rfl, q_TB_in (q_mt5 (List.mem_of_getElem? (i := 186) rfl)) rfl, q_TB_in (q_mt5 (List.mem_of_getElem? (i := 187) rfl)) rfl, q_TB_in (q_mt1 (List.mem_of_getElem? (i := 1) rfl)) rfl, q_TB_in (q_mt5 (List.mem_of_getElem? (i := 188) rfl)) rfl, ⟨by decide, by decide, by decide +kernel⟩, by decide⟩
theorem keRL_17 : q_cpok q_mt "BlockedCarsLaw" (69, 1, 21, 1) := ⟨(yX10_leaks, cX10_leaks, 2, (some .int)), rfl, q_TB_in (q_mt5 (List.mem_of_getElem? (i := 192) rfl)) rfl, q_TB_in (q_mt5 (List.mem_of_getElem? (i := 193) rfl)) rfl, q_TB_in (q_mt5 (List.mem_of_getElem? (i := 194) rfl)) rfl, q_TB_in (q_mt1 (List.mem_of_getElem? (i := 1) rfl)) rfl, q_TB_in (q_mt5 (List.mem_of_getElem? (i := 195) rfl)) rfl, ⟨by decide, by decide, by decide +kernel⟩, by decide⟩
theorem keRL_18 : q_cpok q_mt "BlockedCarsLaw" (72, 1, 22, 1) := ⟨(yX10_look, cX10_look, 3, (some .int)), rfl, q_TB_in (q_mt5 (List.mem_of_getElem? (i := 220) rfl)) rfl, q_TB_in (q_mt5 (List.mem_of_getElem? (i := 221) rfl)) rfl, q_TB_in (q_mt5 (List.mem_of_getElem? (i := 222) rfl)) rfl, q_TB_in (q_mt1 (List.mem_of_getElem? (i := 1) rfl)) rfl, q_TB_in (q_mt5 (List.mem_of_getElem? (i := 223) rfl)) rfl, ⟨by decide, by decide, by decide +kernel⟩, by decide⟩
theorem keRL_19 : q_cpok q_mt "BlockedCarsLaw" (75, 1, 23, 4) := ⟨(yX10_fronts, cX10_fronts, 10, (some .int)), rfl, q_TB_in (q_mt5 (List.mem_of_getElem? (i := 238) rfl)) rfl, q_TB_in (q_mt5 (List.mem_of_getElem? (i := 239) rfl)) rfl, q_TB_in (q_mt6 (List.mem_of_getElem? (i := 0) rfl)) rfl, q_TB_in (q_mt1 (List.mem_of_getElem? (i := 1) rfl)) rfl, q_TB_in (q_mt6 (List.mem_of_getElem? (i := 1) rfl)) rfl, ⟨by decide, by decide, by decide +kernel⟩, by decide⟩
theorem keRL_20 : q_cpok q_mt "BlockedCarsLaw" (79, 1, 24, 3) := ⟨(yX10_pays, cX10_pays, 6, (some .int)), rfl, q_TB_in (q_mt6 (List.mem_of_getElem? (i := 11) rfl)) rfl, q_TB_in (q_mt6 (List.mem_of_getElem? (i := 12) rfl)) rfl, q_TB_in (q_mt6 (List.mem_of_getElem? (i := 13) rfl)) rfl, q_TB_in (q_mt1 (List.mem_of_getElem? (i := 1) rfl)) rfl, q_TB_in (q_mt6 (List.mem_of_getElem? (i := 14) rfl)) rfl, ⟨by decide, by decide, by decide +kernel⟩, by decide⟩
theorem keRL_21 : q_cpok q_mt "BlockedCarsLaw" (82, 1, 25, 1) := ⟨(yX10_spare, cX10_spare, 4, (some .int)), rfl, q_TB_in (q_mt6 (List.mem_of_getElem? (i := 23) rfl)) rfl, q_TB_in (q_mt6 (List.mem_of_getElem? (i := 24) rfl)) rfl, q_TB_in (q_mt6 (List.mem_of_getElem? (i := 25) rfl)) rfl, q_TB_in (q_mt1 (List.mem_of_getElem? (i := 1) rfl)) rfl, q_TB_in (q_mt6 (List.mem_of_getElem? (i := 26) rfl)) rfl, ⟨by decide, by decide, by decide +kernel⟩, by decide⟩
theorem keRL_22 : q_cpok q_mt "BlockedCarsLaw" (85, 1, 26, 1) := ⟨(yX10_next, cX10_next, 5, (some .int)), rfl, q_TB_in (q_mt6 (List.mem_of_getElem? (i := 30) rfl)) rfl, q_TB_in (q_mt6 (List.mem_of_getElem? (i := 31) rfl)) rfl, q_TB_in (q_mt6 (List.mem_of_getElem? (i := 32) rfl)) rfl, q_TB_in (q_mt1 (List.mem_of_getElem? (i := 1) rfl)) rfl, q_TB_in (q_mt6 (List.mem_of_getElem? (i := 33) rfl)) rfl, ⟨by decide, by decide, by decide +kernel⟩, by decide⟩
theorem keRL_23 : q_cpok q_mt "BlockedCarsLaw" (88, 1, 27, 1) := ⟨(yX10_most, cX10_most, 6, (some .int)), rfl, q_TB_in (q_mt6 (List.mem_of_getElem? (i := 38) rfl)) rfl, q_TB_in (q_mt6 (List.mem_of_getElem? (i := 39) rfl)) rfl, q_TB_in (q_mt6 (List.mem_of_getElem? (i := 40) rfl)) rfl, q_TB_in (q_mt1 (List.mem_of_getElem? (i := 1) rfl)) rfl, q_TB_in (q_mt6 (List.mem_of_getElem? (i := 41) rfl)) rfl, ⟨by decide, by decide, by decide +kernel⟩, by decide⟩
theorem keRL_24 : q_cpok q_mt "BlockedCarsLaw" (91, 1, 28, 4) := ⟨(yX10_days, cX10_days, 5, (some .int)), rfl, q_TB_in (q_mt6 (List.mem_of_getElem? (i := 45) rfl)) rfl, q_TB_in (q_mt6 (List.mem_of_getElem? (i := 46) rfl)) rfl, q_TB_in (q_mt6 (List.mem_of_getElem? (i := 47) rfl)) rfl, q_TB_in (q_mt1 (List.mem_of_getElem? (i := 1) rfl)) rfl, q_TB_in (q_mt6 (List.mem_of_getElem? (i := 48) rfl)) rfl, ⟨by decide, by decide, by decide +kernel⟩, by decide⟩
theorem keRL_25 : q_cpok q_mt "BlockedCarsLaw" (94, 1, 29, 6) := ⟨(yX10_span, cX10_span, 12, (some .int)), rfl, q_TB_in (q_mt6 (List.mem_of_getElem? (i := 73) rfl)) rfl, q_TB_in (q_mt6 (List.mem_of_getElem? (i := 74) rfl)) rfl, q_TB_in (q_mt6 (List.mem_of_getElem? (i := 75) rfl)) rfl, q_TB_in (q_mt1 (List.mem_of_getElem? (i := 1) rfl)) rfl, q_TB_in (q_mt6 (List.mem_of_getElem? (i := 76) rfl)) rfl, ⟨by decide, by decide, by decide +kernel⟩, by decide⟩
theorem koRL : q_kok q_mt "BlockedCarsLaw" kpRL := ⟨List.forall_mem_cons.mpr ⟨keRL_0, List.forall_mem_cons.mpr ⟨keRL_1, List.forall_mem_cons.mpr ⟨keRL_2, List.forall_mem_cons.mpr ⟨keRL_3, List.forall_mem_cons.mpr ⟨keRL_4, List.forall_mem_cons.mpr ⟨keRL_5, List.forall_mem_cons.mpr ⟨keRL_6, List.forall_mem_cons.mpr ⟨keRL_7, List.forall_mem_cons.mpr ⟨keRL_8, List.forall_mem_cons.mpr ⟨keRL_9, List.forall_mem_cons.mpr ⟨keRL_10, List.forall_mem_cons.mpr ⟨keRL_11, List.forall_mem_cons.mpr ⟨keRL_12, List.forall_mem_cons.mpr ⟨keRL_13, List.forall_mem_cons.mpr ⟨keRL_14, List.forall_mem_cons.mpr ⟨keRL_15, List.forall_mem_cons.mpr ⟨keRL_16, List.forall_mem_cons.mpr ⟨keRL_17, List.forall_mem_cons.mpr ⟨keRL_18, List.forall_mem_cons.mpr ⟨keRL_19, List.forall_mem_cons.mpr ⟨keRL_20, List.forall_mem_cons.mpr ⟨keRL_21, List.forall_mem_cons.mpr ⟨keRL_22, List.forall_mem_cons.mpr ⟨keRL_23, List.forall_mem_cons.mpr ⟨keRL_24, List.forall_mem_cons.mpr ⟨keRL_25, (fun _ h => nomatch h)⟩⟩⟩⟩⟩⟩⟩⟩⟩⟩⟩⟩⟩⟩⟩⟩⟩⟩⟩⟩⟩⟩⟩⟩⟩⟩, (fun _ h => nomatch h), (fun _ h => nomatch h), (fun _ h => nomatch h)⟩
theorem clIA : Cond.classLink "BlockedCarsLaw" 13 sIA ∈ q_TB := q_TB_in (q_mt2 (List.mem_of_getElem? (i := 167) rfl)) rfl
theorem clNS : Cond.classLink "BlockedCarsLaw" 31 sNS ∈ q_TB := q_TB_in (q_mt4 (List.mem_of_getElem? (i := 211) rfl)) rfl
def qL_yard : qM := (yL_yard, cL_yard, 4, some .int)
abbrev hL_yard : List (Nat × Nat × Nat × Nat) := [(0, 9, 12, 13)]
def zL_yard : List (List qO) := [[(4, 0, 2, 0, 0, 0, 0, []), (0, 1, 0, 0, 0, 0, 0, []), (4, 2, 0, 0, 0, 0, 0, []), (2, 3, 1, 0, 0, 0, 0, []), (50, 4, 1, 0, 0, 0, 0, [])],
  [(44, 4, 2, 2, 1, 0, 0, [(0, 0)]), (16, 7, 0, 0, 0, 0, 0, []), (41, 8, 0, 0, 0, 0, 0, []), (24, 9, 2, 0, 0, 0, 0, [])],
  [(0, 15, 0, 0, 0, 0, 0, []), (45, 16, 0, 0, 0, 0, 0, [])]]
theorem zbL_yard : q_nth zL_yard 0 = [(4, 0, 2, 0, 0, 0, 0, []), (0, 1, 0, 0, 0, 0, 0, []), (4, 2, 0, 0, 0, 0, 0, []), (2, 3, 1, 0, 0, 0, 0, []), (50, 4, 1, 0, 0, 0, 0, [])] ∧ q_nth zL_yard 1 = [(44, 4, 2, 2, 1, 0, 0, [(0, 0)]), (16, 7, 0, 0, 0, 0, 0, []), (41, 8, 0, 0, 0, 0, 0, []), (24, 9, 2, 0, 0, 0, 0, [])] ∧ q_nth zL_yard 2 = [(0, 15, 0, 0, 0, 0, 0, []), (45, 16, 0, 0, 0, 0, 0, [])] := ⟨rfl, rfl, rfl⟩
set_option maxRecDepth 100000 in
theorem zoL_yard : q_wok qL_yard "BlockedCarsLaw" kpRL [0, 4, 15] zL_yard 4 := ⟨rfl, by decide +kernel, rfl, by decide +kernel, rfl, koRL, rfl, by decide⟩
theorem hwL_yard : Cond.codeWith yL_yard cL_yard 4 (some .int) hL_yard ∈ q_TB := q_TB_in (q_mt2 (List.mem_of_getElem? (i := 166) rfl)) rfl
def qL_law : qM := (yL_law, cL_law, 4, some .int)
abbrev hL_law : List (Nat × Nat × Nat × Nat) := [(0, 9, 12, 13)]
def zL_law : List (List qO) := [[(4, 0, 2, 0, 0, 0, 0, []), (0, 1, 0, 0, 0, 0, 0, []), (4, 2, 0, 0, 0, 0, 0, []), (2, 3, 1, 0, 0, 0, 0, []), (50, 4, 1, 0, 0, 0, 0, [])],
  [(44, 4, 3, 2, 1, 0, 0, [(0, 0)]), (16, 7, 0, 0, 0, 0, 0, []), (41, 8, 0, 0, 0, 0, 0, []), (24, 9, 2, 0, 0, 0, 0, [])],
  [(0, 15, 0, 0, 0, 0, 0, []), (45, 16, 0, 0, 0, 0, 0, [])]]
theorem zbL_law : q_nth zL_law 0 = [(4, 0, 2, 0, 0, 0, 0, []), (0, 1, 0, 0, 0, 0, 0, []), (4, 2, 0, 0, 0, 0, 0, []), (2, 3, 1, 0, 0, 0, 0, []), (50, 4, 1, 0, 0, 0, 0, [])] ∧ q_nth zL_law 1 = [(44, 4, 3, 2, 1, 0, 0, [(0, 0)]), (16, 7, 0, 0, 0, 0, 0, []), (41, 8, 0, 0, 0, 0, 0, []), (24, 9, 2, 0, 0, 0, 0, [])] ∧ q_nth zL_law 2 = [(0, 15, 0, 0, 0, 0, 0, []), (45, 16, 0, 0, 0, 0, 0, [])] := ⟨rfl, rfl, rfl⟩
set_option maxRecDepth 100000 in
theorem zoL_law : q_wok qL_law "BlockedCarsLaw" kpRL [0, 4, 15] zL_law 4 := ⟨rfl, by decide +kernel, rfl, by decide +kernel, rfl, koRL, rfl, by decide⟩
theorem hwL_law : Cond.codeWith yL_law cL_law 4 (some .int) hL_law ∈ q_TB := q_TB_in (q_mt3 (List.mem_of_getElem? (i := 158) rfl)) rfl
def qL_work : qM := (yL_work, cL_work, 4, some .int)
abbrev hL_work : List (Nat × Nat × Nat × Nat) := [(0, 9, 12, 13)]
def zL_work : List (List qO) := [[(4, 0, 2, 0, 0, 0, 0, []), (0, 1, 0, 0, 0, 0, 0, []), (4, 2, 0, 0, 0, 0, 0, []), (2, 3, 1, 0, 0, 0, 0, []), (50, 4, 1, 0, 0, 0, 0, [])],
  [(44, 4, 4, 2, 1, 0, 0, [(0, 0)]), (16, 7, 0, 0, 0, 0, 0, []), (41, 8, 0, 0, 0, 0, 0, []), (24, 9, 2, 0, 0, 0, 0, [])],
  [(0, 15, 0, 0, 0, 0, 0, []), (45, 16, 0, 0, 0, 0, 0, [])]]
theorem zbL_work : q_nth zL_work 0 = [(4, 0, 2, 0, 0, 0, 0, []), (0, 1, 0, 0, 0, 0, 0, []), (4, 2, 0, 0, 0, 0, 0, []), (2, 3, 1, 0, 0, 0, 0, []), (50, 4, 1, 0, 0, 0, 0, [])] ∧ q_nth zL_work 1 = [(44, 4, 4, 2, 1, 0, 0, [(0, 0)]), (16, 7, 0, 0, 0, 0, 0, []), (41, 8, 0, 0, 0, 0, 0, []), (24, 9, 2, 0, 0, 0, 0, [])] ∧ q_nth zL_work 2 = [(0, 15, 0, 0, 0, 0, 0, []), (45, 16, 0, 0, 0, 0, 0, [])] := ⟨rfl, rfl, rfl⟩
set_option maxRecDepth 100000 in
theorem zoL_work : q_wok qL_work "BlockedCarsLaw" kpRL [0, 4, 15] zL_work 4 := ⟨rfl, by decide +kernel, rfl, by decide +kernel, rfl, koRL, rfl, by decide⟩
theorem hwL_work : Cond.codeWith yL_work cL_work 4 (some .int) hL_work ∈ q_TB := q_TB_in (q_mt3 (List.mem_of_getElem? (i := 220) rfl)) rfl
def qL_spots : qM := (yL_spots, cL_spots, 4, some .int)
abbrev hL_spots : List (Nat × Nat × Nat × Nat) := [(0, 9, 12, 13)]
def zL_spots : List (List qO) := [[(4, 0, 2, 0, 0, 0, 0, []), (0, 1, 0, 0, 0, 0, 0, []), (4, 2, 0, 0, 0, 0, 0, []), (2, 3, 1, 0, 0, 0, 0, []), (50, 4, 1, 0, 0, 0, 0, [])],
  [(44, 4, 5, 2, 1, 0, 0, [(0, 0)]), (16, 7, 0, 0, 0, 0, 0, []), (41, 8, 0, 0, 0, 0, 0, []), (24, 9, 2, 0, 0, 0, 0, [])],
  [(0, 15, 0, 0, 0, 0, 0, []), (45, 16, 0, 0, 0, 0, 0, [])]]
theorem zbL_spots : q_nth zL_spots 0 = [(4, 0, 2, 0, 0, 0, 0, []), (0, 1, 0, 0, 0, 0, 0, []), (4, 2, 0, 0, 0, 0, 0, []), (2, 3, 1, 0, 0, 0, 0, []), (50, 4, 1, 0, 0, 0, 0, [])] ∧ q_nth zL_spots 1 = [(44, 4, 5, 2, 1, 0, 0, [(0, 0)]), (16, 7, 0, 0, 0, 0, 0, []), (41, 8, 0, 0, 0, 0, 0, []), (24, 9, 2, 0, 0, 0, 0, [])] ∧ q_nth zL_spots 2 = [(0, 15, 0, 0, 0, 0, 0, []), (45, 16, 0, 0, 0, 0, 0, [])] := ⟨rfl, rfl, rfl⟩
set_option maxRecDepth 100000 in
theorem zoL_spots : q_wok qL_spots "BlockedCarsLaw" kpRL [0, 4, 15] zL_spots 4 := ⟨rfl, by decide +kernel, rfl, by decide +kernel, rfl, koRL, rfl, by decide⟩
theorem hwL_spots : Cond.codeWith yL_spots cL_spots 4 (some .int) hL_spots ∈ q_TB := q_TB_in (q_mt4 (List.mem_of_getElem? (i := 161) rfl)) rfl
def qL_told : qM := (yL_told, cL_told, 4, some .int)
abbrev hL_told : List (Nat × Nat × Nat × Nat) := [(0, 9, 12, 13)]
def zL_told : List (List qO) := [[(4, 0, 2, 0, 0, 0, 0, []), (0, 1, 0, 0, 0, 0, 0, []), (4, 2, 0, 0, 0, 0, 0, []), (2, 3, 1, 0, 0, 0, 0, []), (50, 4, 1, 0, 0, 0, 0, [])],
  [(44, 4, 8, 2, 1, 0, 0, [(0, 0)]), (16, 7, 0, 0, 0, 0, 0, []), (41, 8, 0, 0, 0, 0, 0, []), (24, 9, 2, 0, 0, 0, 0, [])],
  [(0, 15, 0, 0, 0, 0, 0, []), (45, 16, 0, 0, 0, 0, 0, [])]]
theorem zbL_told : q_nth zL_told 0 = [(4, 0, 2, 0, 0, 0, 0, []), (0, 1, 0, 0, 0, 0, 0, []), (4, 2, 0, 0, 0, 0, 0, []), (2, 3, 1, 0, 0, 0, 0, []), (50, 4, 1, 0, 0, 0, 0, [])] ∧ q_nth zL_told 1 = [(44, 4, 8, 2, 1, 0, 0, [(0, 0)]), (16, 7, 0, 0, 0, 0, 0, []), (41, 8, 0, 0, 0, 0, 0, []), (24, 9, 2, 0, 0, 0, 0, [])] ∧ q_nth zL_told 2 = [(0, 15, 0, 0, 0, 0, 0, []), (45, 16, 0, 0, 0, 0, 0, [])] := ⟨rfl, rfl, rfl⟩
set_option maxRecDepth 100000 in
theorem zoL_told : q_wok qL_told "BlockedCarsLaw" kpRL [0, 4, 15] zL_told 4 := ⟨rfl, by decide +kernel, rfl, by decide +kernel, rfl, koRL, rfl, by decide⟩
theorem hwL_told : Cond.codeWith yL_told cL_told 4 (some .int) hL_told ∈ q_TB := q_TB_in (q_mt4 (List.mem_of_getElem? (i := 185) rfl)) rfl
def qL_lane : qM := (yL_lane, cL_lane, 5, some .int)
abbrev hL_lane : List (Nat × Nat × Nat × Nat) := [(0, 10, 13, 31), (0, 10, 17, 13)]
def zL_lane : List (List qO) := [[(4, 0, 3, 0, 0, 0, 0, []), (0, 1, 0, 0, 0, 0, 0, []), (4, 2, 0, 0, 0, 0, 0, []), (2, 3, 1, 0, 0, 0, 0, []), (2, 4, 2, 0, 0, 0, 0, []), (50, 5, 1, 0, 0, 0, 0, [])],
  [(44, 5, 9, 3, 1, 0, 0, [(0, 0)]), (16, 8, 0, 0, 0, 0, 0, []), (41, 9, 0, 0, 0, 0, 0, []), (24, 10, 2, 0, 0, 0, 0, [])],
  [(0, 21, 0, 0, 0, 0, 0, []), (45, 22, 0, 0, 0, 0, 0, [])]]
theorem zbL_lane : q_nth zL_lane 0 = [(4, 0, 3, 0, 0, 0, 0, []), (0, 1, 0, 0, 0, 0, 0, []), (4, 2, 0, 0, 0, 0, 0, []), (2, 3, 1, 0, 0, 0, 0, []), (2, 4, 2, 0, 0, 0, 0, []), (50, 5, 1, 0, 0, 0, 0, [])] ∧ q_nth zL_lane 1 = [(44, 5, 9, 3, 1, 0, 0, [(0, 0)]), (16, 8, 0, 0, 0, 0, 0, []), (41, 9, 0, 0, 0, 0, 0, []), (24, 10, 2, 0, 0, 0, 0, [])] ∧ q_nth zL_lane 2 = [(0, 21, 0, 0, 0, 0, 0, []), (45, 22, 0, 0, 0, 0, 0, [])] := ⟨rfl, rfl, rfl⟩
set_option maxRecDepth 100000 in
theorem zoL_lane : q_wok qL_lane "BlockedCarsLaw" kpRL [0, 5, 21] zL_lane 5 := ⟨rfl, by decide +kernel, rfl, by decide +kernel, rfl, koRL, rfl, by decide⟩
theorem hwL_lane : Cond.codeWith yL_lane cL_lane 5 (some .int) hL_lane ∈ q_TB := q_TB_in (q_mt4 (List.mem_of_getElem? (i := 210) rfl)) rfl
def qL_car : qM := (yL_car, cL_car, 5, some .int)
abbrev hL_car : List (Nat × Nat × Nat × Nat) := [(0, 10, 13, 31), (0, 10, 17, 13)]
def zL_car : List (List qO) := [[(4, 0, 3, 0, 0, 0, 0, []), (0, 1, 0, 0, 0, 0, 0, []), (4, 2, 0, 0, 0, 0, 0, []), (2, 3, 1, 0, 0, 0, 0, []), (2, 4, 2, 0, 0, 0, 0, []), (50, 5, 1, 0, 0, 0, 0, [])],
  [(44, 5, 10, 3, 1, 0, 0, [(0, 0)]), (16, 8, 0, 0, 0, 0, 0, []), (41, 9, 0, 0, 0, 0, 0, []), (24, 10, 2, 0, 0, 0, 0, [])],
  [(0, 21, 0, 0, 0, 0, 0, []), (45, 22, 0, 0, 0, 0, 0, [])]]
theorem zbL_car : q_nth zL_car 0 = [(4, 0, 3, 0, 0, 0, 0, []), (0, 1, 0, 0, 0, 0, 0, []), (4, 2, 0, 0, 0, 0, 0, []), (2, 3, 1, 0, 0, 0, 0, []), (2, 4, 2, 0, 0, 0, 0, []), (50, 5, 1, 0, 0, 0, 0, [])] ∧ q_nth zL_car 1 = [(44, 5, 10, 3, 1, 0, 0, [(0, 0)]), (16, 8, 0, 0, 0, 0, 0, []), (41, 9, 0, 0, 0, 0, 0, []), (24, 10, 2, 0, 0, 0, 0, [])] ∧ q_nth zL_car 2 = [(0, 21, 0, 0, 0, 0, 0, []), (45, 22, 0, 0, 0, 0, 0, [])] := ⟨rfl, rfl, rfl⟩
set_option maxRecDepth 100000 in
theorem zoL_car : q_wok qL_car "BlockedCarsLaw" kpRL [0, 5, 21] zL_car 5 := ⟨rfl, by decide +kernel, rfl, by decide +kernel, rfl, koRL, rfl, by decide⟩
theorem hwL_car : Cond.codeWith yL_car cL_car 5 (some .int) hL_car ∈ q_TB := q_TB_in (q_mt5 (List.mem_of_getElem? (i := 4) rfl)) rfl
def qL_on : qM := (yL_on, cL_on, 5, some .int)
abbrev hL_on : List (Nat × Nat × Nat × Nat) := [(0, 10, 13, 31)]
def zL_on : List (List qO) := [[(4, 0, 3, 0, 0, 0, 0, []), (0, 1, 0, 0, 0, 0, 0, []), (4, 2, 0, 0, 0, 0, 0, []), (2, 3, 1, 0, 0, 0, 0, []), (2, 4, 2, 0, 0, 0, 0, []), (50, 5, 1, 0, 0, 0, 0, [])],
  [(44, 5, 11, 3, 1, 0, 0, [(0, 0)]), (16, 8, 0, 0, 0, 0, 0, []), (41, 9, 0, 0, 0, 0, 0, []), (24, 10, 2, 0, 0, 0, 0, [])],
  [(0, 17, 0, 0, 0, 0, 0, []), (45, 18, 0, 0, 0, 0, 0, [])]]
theorem zbL_on : q_nth zL_on 0 = [(4, 0, 3, 0, 0, 0, 0, []), (0, 1, 0, 0, 0, 0, 0, []), (4, 2, 0, 0, 0, 0, 0, []), (2, 3, 1, 0, 0, 0, 0, []), (2, 4, 2, 0, 0, 0, 0, []), (50, 5, 1, 0, 0, 0, 0, [])] ∧ q_nth zL_on 1 = [(44, 5, 11, 3, 1, 0, 0, [(0, 0)]), (16, 8, 0, 0, 0, 0, 0, []), (41, 9, 0, 0, 0, 0, 0, []), (24, 10, 2, 0, 0, 0, 0, [])] ∧ q_nth zL_on 2 = [(0, 17, 0, 0, 0, 0, 0, []), (45, 18, 0, 0, 0, 0, 0, [])] := ⟨rfl, rfl, rfl⟩
set_option maxRecDepth 100000 in
theorem zoL_on : q_wok qL_on "BlockedCarsLaw" kpRL [0, 5, 17] zL_on 5 := ⟨rfl, by decide +kernel, rfl, by decide +kernel, rfl, koRL, rfl, by decide⟩
theorem hwL_on : Cond.codeWith yL_on cL_on 5 (some .int) hL_on ∈ q_TB := q_TB_in (q_mt5 (List.mem_of_getElem? (i := 30) rfl)) rfl
def qL_seconds : qM := (yL_seconds, cL_seconds, 5, some .int)
abbrev hL_seconds : List (Nat × Nat × Nat × Nat) := [(0, 10, 13, 31), (0, 10, 17, 13)]
def zL_seconds : List (List qO) := [[(4, 0, 3, 0, 0, 0, 0, []), (0, 1, 0, 0, 0, 0, 0, []), (4, 2, 0, 0, 0, 0, 0, []), (2, 3, 1, 0, 0, 0, 0, []), (2, 4, 2, 0, 0, 0, 0, []), (50, 5, 1, 0, 0, 0, 0, [])],
  [(44, 5, 12, 3, 1, 0, 0, [(0, 0)]), (16, 8, 0, 0, 0, 0, 0, []), (41, 9, 0, 0, 0, 0, 0, []), (24, 10, 2, 0, 0, 0, 0, [])],
  [(0, 21, 0, 0, 0, 0, 0, []), (45, 22, 0, 0, 0, 0, 0, [])]]
theorem zbL_seconds : q_nth zL_seconds 0 = [(4, 0, 3, 0, 0, 0, 0, []), (0, 1, 0, 0, 0, 0, 0, []), (4, 2, 0, 0, 0, 0, 0, []), (2, 3, 1, 0, 0, 0, 0, []), (2, 4, 2, 0, 0, 0, 0, []), (50, 5, 1, 0, 0, 0, 0, [])] ∧ q_nth zL_seconds 1 = [(44, 5, 12, 3, 1, 0, 0, [(0, 0)]), (16, 8, 0, 0, 0, 0, 0, []), (41, 9, 0, 0, 0, 0, 0, []), (24, 10, 2, 0, 0, 0, 0, [])] ∧ q_nth zL_seconds 2 = [(0, 21, 0, 0, 0, 0, 0, []), (45, 22, 0, 0, 0, 0, 0, [])] := ⟨rfl, rfl, rfl⟩
set_option maxRecDepth 100000 in
theorem zoL_seconds : q_wok qL_seconds "BlockedCarsLaw" kpRL [0, 5, 21] zL_seconds 5 := ⟨rfl, by decide +kernel, rfl, by decide +kernel, rfl, koRL, rfl, by decide⟩
theorem hwL_seconds : Cond.codeWith yL_seconds cL_seconds 5 (some .int) hL_seconds ∈ q_TB := q_TB_in (q_mt5 (List.mem_of_getElem? (i := 38) rfl)) rfl
def qL_would : qM := (yL_would, cL_would, 11, some .int)
abbrev hL_would : List (Nat × Nat × Nat × Nat) := [(0, 22, 25, 13)]
def zL_would : List (List qO) := [[(4, 0, 9, 0, 0, 0, 0, []), (0, 2, 0, 0, 0, 0, 0, []), (4, 3, 0, 0, 0, 0, 0, []), (2, 4, 1, 0, 0, 0, 0, []), (2, 5, 2, 0, 0, 0, 0, []), (2, 6, 3, 0, 0, 0, 0, []), (2, 7, 4, 0, 0, 0, 0, []), (2, 9, 5, 0, 0, 0, 0, []), (2, 11, 6, 0, 0, 0, 0, []), (2, 13, 7, 0, 0, 0, 0, []), (2, 15, 8, 0, 0, 0, 0, []), (50, 17, 1, 0, 0, 0, 0, [])],
  [(44, 17, 13, 9, 1, 0, 0, [(0, 0)]), (16, 20, 0, 0, 0, 0, 0, []), (41, 21, 0, 0, 0, 0, 0, []), (24, 22, 2, 0, 0, 0, 0, [])],
  [(0, 29, 0, 0, 0, 0, 0, []), (45, 30, 0, 0, 0, 0, 0, [])]]
theorem zbL_would : q_nth zL_would 0 = [(4, 0, 9, 0, 0, 0, 0, []), (0, 2, 0, 0, 0, 0, 0, []), (4, 3, 0, 0, 0, 0, 0, []), (2, 4, 1, 0, 0, 0, 0, []), (2, 5, 2, 0, 0, 0, 0, []), (2, 6, 3, 0, 0, 0, 0, []), (2, 7, 4, 0, 0, 0, 0, []), (2, 9, 5, 0, 0, 0, 0, []), (2, 11, 6, 0, 0, 0, 0, []), (2, 13, 7, 0, 0, 0, 0, []), (2, 15, 8, 0, 0, 0, 0, []), (50, 17, 1, 0, 0, 0, 0, [])] ∧ q_nth zL_would 1 = [(44, 17, 13, 9, 1, 0, 0, [(0, 0)]), (16, 20, 0, 0, 0, 0, 0, []), (41, 21, 0, 0, 0, 0, 0, []), (24, 22, 2, 0, 0, 0, 0, [])] ∧ q_nth zL_would 2 = [(0, 29, 0, 0, 0, 0, 0, []), (45, 30, 0, 0, 0, 0, 0, [])] := ⟨rfl, rfl, rfl⟩
set_option maxRecDepth 100000 in
theorem zoL_would : q_wok qL_would "BlockedCarsLaw" kpRL [0, 17, 29] zL_would 11 := ⟨rfl, by decide +kernel, rfl, by decide +kernel, rfl, koRL, rfl, by decide⟩
theorem hwL_would : Cond.codeWith yL_would cL_would 11 (some .int) hL_would ∈ q_TB := q_TB_in (q_mt5 (List.mem_of_getElem? (i := 46) rfl)) rfl
def qL_ahead : qM := (yL_ahead, cL_ahead, 4, some .int)
abbrev hL_ahead : List (Nat × Nat × Nat × Nat) := [(0, 9, 12, 31)]
def zL_ahead : List (List qO) := [[(4, 0, 2, 0, 0, 0, 0, []), (0, 1, 0, 0, 0, 0, 0, []), (4, 2, 0, 0, 0, 0, 0, []), (2, 3, 1, 0, 0, 0, 0, []), (50, 4, 1, 0, 0, 0, 0, [])],
  [(44, 4, 14, 2, 1, 0, 0, [(0, 0)]), (16, 7, 0, 0, 0, 0, 0, []), (41, 8, 0, 0, 0, 0, 0, []), (24, 9, 2, 0, 0, 0, 0, [])],
  [(0, 15, 0, 0, 0, 0, 0, []), (45, 16, 0, 0, 0, 0, 0, [])]]
theorem zbL_ahead : q_nth zL_ahead 0 = [(4, 0, 2, 0, 0, 0, 0, []), (0, 1, 0, 0, 0, 0, 0, []), (4, 2, 0, 0, 0, 0, 0, []), (2, 3, 1, 0, 0, 0, 0, []), (50, 4, 1, 0, 0, 0, 0, [])] ∧ q_nth zL_ahead 1 = [(44, 4, 14, 2, 1, 0, 0, [(0, 0)]), (16, 7, 0, 0, 0, 0, 0, []), (41, 8, 0, 0, 0, 0, 0, []), (24, 9, 2, 0, 0, 0, 0, [])] ∧ q_nth zL_ahead 2 = [(0, 15, 0, 0, 0, 0, 0, []), (45, 16, 0, 0, 0, 0, 0, [])] := ⟨rfl, rfl, rfl⟩
set_option maxRecDepth 100000 in
theorem zoL_ahead : q_wok qL_ahead "BlockedCarsLaw" kpRL [0, 4, 15] zL_ahead 4 := ⟨rfl, by decide +kernel, rfl, by decide +kernel, rfl, koRL, rfl, by decide⟩
theorem hwL_ahead : Cond.codeWith yL_ahead cL_ahead 4 (some .int) hL_ahead ∈ q_TB := q_TB_in (q_mt5 (List.mem_of_getElem? (i := 56) rfl)) rfl
def qL_frees : qM := (yL_frees, cL_frees, 5, some .int)
abbrev hL_frees : List (Nat × Nat × Nat × Nat) := [(0, 10, 13, 31), (0, 10, 17, 13)]
def zL_frees : List (List qO) := [[(4, 0, 3, 0, 0, 0, 0, []), (0, 1, 0, 0, 0, 0, 0, []), (4, 2, 0, 0, 0, 0, 0, []), (2, 3, 1, 0, 0, 0, 0, []), (2, 4, 2, 0, 0, 0, 0, []), (50, 5, 1, 0, 0, 0, 0, [])],
  [(44, 5, 15, 3, 1, 0, 0, [(0, 0)]), (16, 8, 0, 0, 0, 0, 0, []), (41, 9, 0, 0, 0, 0, 0, []), (24, 10, 2, 0, 0, 0, 0, [])],
  [(0, 21, 0, 0, 0, 0, 0, []), (45, 22, 0, 0, 0, 0, 0, [])]]
theorem zbL_frees : q_nth zL_frees 0 = [(4, 0, 3, 0, 0, 0, 0, []), (0, 1, 0, 0, 0, 0, 0, []), (4, 2, 0, 0, 0, 0, 0, []), (2, 3, 1, 0, 0, 0, 0, []), (2, 4, 2, 0, 0, 0, 0, []), (50, 5, 1, 0, 0, 0, 0, [])] ∧ q_nth zL_frees 1 = [(44, 5, 15, 3, 1, 0, 0, [(0, 0)]), (16, 8, 0, 0, 0, 0, 0, []), (41, 9, 0, 0, 0, 0, 0, []), (24, 10, 2, 0, 0, 0, 0, [])] ∧ q_nth zL_frees 2 = [(0, 21, 0, 0, 0, 0, 0, []), (45, 22, 0, 0, 0, 0, 0, [])] := ⟨rfl, rfl, rfl⟩
set_option maxRecDepth 100000 in
theorem zoL_frees : q_wok qL_frees "BlockedCarsLaw" kpRL [0, 5, 21] zL_frees 5 := ⟨rfl, by decide +kernel, rfl, by decide +kernel, rfl, koRL, rfl, by decide⟩
theorem hwL_frees : Cond.codeWith yL_frees cL_frees 5 (some .int) hL_frees ∈ q_TB := q_TB_in (q_mt5 (List.mem_of_getElem? (i := 67) rfl)) rfl
def qL_morning : qM := (yL_morning, cL_morning, 4, some .int)
abbrev hL_morning : List (Nat × Nat × Nat × Nat) := [(0, 9, 12, 13)]
def zL_morning : List (List qO) := [[(4, 0, 2, 0, 0, 0, 0, []), (0, 1, 0, 0, 0, 0, 0, []), (4, 2, 0, 0, 0, 0, 0, []), (2, 3, 1, 0, 0, 0, 0, []), (50, 4, 1, 0, 0, 0, 0, [])],
  [(44, 4, 16, 2, 1, 0, 0, [(0, 0)]), (16, 7, 0, 0, 0, 0, 0, []), (41, 8, 0, 0, 0, 0, 0, []), (24, 9, 2, 0, 0, 0, 0, [])],
  [(0, 15, 0, 0, 0, 0, 0, []), (45, 16, 0, 0, 0, 0, 0, [])]]
theorem zbL_morning : q_nth zL_morning 0 = [(4, 0, 2, 0, 0, 0, 0, []), (0, 1, 0, 0, 0, 0, 0, []), (4, 2, 0, 0, 0, 0, 0, []), (2, 3, 1, 0, 0, 0, 0, []), (50, 4, 1, 0, 0, 0, 0, [])] ∧ q_nth zL_morning 1 = [(44, 4, 16, 2, 1, 0, 0, [(0, 0)]), (16, 7, 0, 0, 0, 0, 0, []), (41, 8, 0, 0, 0, 0, 0, []), (24, 9, 2, 0, 0, 0, 0, [])] ∧ q_nth zL_morning 2 = [(0, 15, 0, 0, 0, 0, 0, []), (45, 16, 0, 0, 0, 0, 0, [])] := ⟨rfl, rfl, rfl⟩
set_option maxRecDepth 100000 in
theorem zoL_morning : q_wok qL_morning "BlockedCarsLaw" kpRL [0, 4, 15] zL_morning 4 := ⟨rfl, by decide +kernel, rfl, by decide +kernel, rfl, koRL, rfl, by decide⟩
theorem hwL_morning : Cond.codeWith yL_morning cL_morning 4 (some .int) hL_morning ∈ q_TB := q_TB_in (q_mt5 (List.mem_of_getElem? (i := 130) rfl)) rfl
def qL_corner : qM := (yL_corner, cL_corner, 4, some .int)
abbrev hL_corner : List (Nat × Nat × Nat × Nat) := [(0, 9, 12, 31)]
def zL_corner : List (List qO) := [[(4, 0, 2, 0, 0, 0, 0, []), (0, 1, 0, 0, 0, 0, 0, []), (4, 2, 0, 0, 0, 0, 0, []), (2, 3, 1, 0, 0, 0, 0, []), (50, 4, 1, 0, 0, 0, 0, [])],
  [(44, 4, 17, 2, 1, 0, 0, [(0, 0)]), (16, 7, 0, 0, 0, 0, 0, []), (41, 8, 0, 0, 0, 0, 0, []), (24, 9, 2, 0, 0, 0, 0, [])],
  [(0, 15, 0, 0, 0, 0, 0, []), (45, 16, 0, 0, 0, 0, 0, [])]]
theorem zbL_corner : q_nth zL_corner 0 = [(4, 0, 2, 0, 0, 0, 0, []), (0, 1, 0, 0, 0, 0, 0, []), (4, 2, 0, 0, 0, 0, 0, []), (2, 3, 1, 0, 0, 0, 0, []), (50, 4, 1, 0, 0, 0, 0, [])] ∧ q_nth zL_corner 1 = [(44, 4, 17, 2, 1, 0, 0, [(0, 0)]), (16, 7, 0, 0, 0, 0, 0, []), (41, 8, 0, 0, 0, 0, 0, []), (24, 9, 2, 0, 0, 0, 0, [])] ∧ q_nth zL_corner 2 = [(0, 15, 0, 0, 0, 0, 0, []), (45, 16, 0, 0, 0, 0, 0, [])] := ⟨rfl, rfl, rfl⟩
set_option maxRecDepth 100000 in
theorem zoL_corner : q_wok qL_corner "BlockedCarsLaw" kpRL [0, 4, 15] zL_corner 4 := ⟨rfl, by decide +kernel, rfl, by decide +kernel, rfl, koRL, rfl, by decide⟩
theorem hwL_corner : Cond.codeWith yL_corner cL_corner 4 (some .int) hL_corner ∈ q_TB := q_TB_in (q_mt5 (List.mem_of_getElem? (i := 137) rfl)) rfl
def qL_goes : qM := (yL_goes, cL_goes, 4, some .int)
abbrev hL_goes : List (Nat × Nat × Nat × Nat) := [(0, 16, 19, 31)]
def zL_goes : List (List qO) := [[(4, 0, 2, 0, 0, 0, 0, []), (0, 1, 0, 0, 0, 0, 0, []), (4, 2, 0, 0, 0, 0, 0, []), (2, 3, 1, 0, 0, 0, 0, []), (50, 4, 1, 0, 0, 0, 0, [])],
  [(44, 4, 18, 2, 1, 0, 0, [(0, 0)]), (22, 7, 0, 2, 0, 0, 0, []), (1, 10, 0, 0, 0, 0, 1, []), (24, 11, 3, 0, 0, 0, 0, [])],
  [(1, 14, 0, 0, 0, 0, 0, []), (50, 15, 3, 0, 0, 0, 0, [])],
  [(41, 15, 0, 0, 0, 0, 0, []), (24, 16, 4, 0, 0, 0, 0, [])],
  [(0, 22, 0, 0, 0, 0, 0, []), (45, 23, 0, 0, 0, 0, 0, [])]]
theorem zbL_goes : q_nth zL_goes 0 = [(4, 0, 2, 0, 0, 0, 0, []), (0, 1, 0, 0, 0, 0, 0, []), (4, 2, 0, 0, 0, 0, 0, []), (2, 3, 1, 0, 0, 0, 0, []), (50, 4, 1, 0, 0, 0, 0, [])] ∧ q_nth zL_goes 1 = [(44, 4, 18, 2, 1, 0, 0, [(0, 0)]), (22, 7, 0, 2, 0, 0, 0, []), (1, 10, 0, 0, 0, 0, 1, []), (24, 11, 3, 0, 0, 0, 0, [])] ∧ q_nth zL_goes 2 = [(1, 14, 0, 0, 0, 0, 0, []), (50, 15, 3, 0, 0, 0, 0, [])] ∧ q_nth zL_goes 3 = [(41, 15, 0, 0, 0, 0, 0, []), (24, 16, 4, 0, 0, 0, 0, [])] ∧ q_nth zL_goes 4 = [(0, 22, 0, 0, 0, 0, 0, []), (45, 23, 0, 0, 0, 0, 0, [])] := ⟨rfl, rfl, rfl, rfl, rfl⟩
set_option maxRecDepth 100000 in
theorem zoL_goes : q_wok qL_goes "BlockedCarsLaw" kpRL [0, 4, 14, 15, 22] zL_goes 4 := ⟨rfl, by decide +kernel, rfl, by decide +kernel, rfl, koRL, rfl, by decide⟩
theorem hwL_goes : Cond.codeWith yL_goes cL_goes 4 (some .int) hL_goes ∈ q_TB := q_TB_in (q_mt5 (List.mem_of_getElem? (i := 147) rfl)) rfl
def qL_evening : qM := (yL_evening, cL_evening, 5, some .int)
abbrev hL_evening : List (Nat × Nat × Nat × Nat) := [(0, 10, 13, 13)]
def zL_evening : List (List qO) := [[(4, 0, 3, 0, 0, 0, 0, []), (0, 1, 0, 0, 0, 0, 0, []), (4, 2, 0, 0, 0, 0, 0, []), (2, 3, 1, 0, 0, 0, 0, []), (2, 4, 2, 0, 0, 0, 0, []), (50, 5, 1, 0, 0, 0, 0, [])],
  [(44, 5, 19, 3, 1, 0, 0, [(0, 0)]), (16, 8, 0, 0, 0, 0, 0, []), (41, 9, 0, 0, 0, 0, 0, []), (24, 10, 2, 0, 0, 0, 0, [])],
  [(0, 17, 0, 0, 0, 0, 0, []), (45, 18, 0, 0, 0, 0, 0, [])]]
theorem zbL_evening : q_nth zL_evening 0 = [(4, 0, 3, 0, 0, 0, 0, []), (0, 1, 0, 0, 0, 0, 0, []), (4, 2, 0, 0, 0, 0, 0, []), (2, 3, 1, 0, 0, 0, 0, []), (2, 4, 2, 0, 0, 0, 0, []), (50, 5, 1, 0, 0, 0, 0, [])] ∧ q_nth zL_evening 1 = [(44, 5, 19, 3, 1, 0, 0, [(0, 0)]), (16, 8, 0, 0, 0, 0, 0, []), (41, 9, 0, 0, 0, 0, 0, []), (24, 10, 2, 0, 0, 0, 0, [])] ∧ q_nth zL_evening 2 = [(0, 17, 0, 0, 0, 0, 0, []), (45, 18, 0, 0, 0, 0, 0, [])] := ⟨rfl, rfl, rfl⟩
set_option maxRecDepth 100000 in
theorem zoL_evening : q_wok qL_evening "BlockedCarsLaw" kpRL [0, 5, 17] zL_evening 5 := ⟨rfl, by decide +kernel, rfl, by decide +kernel, rfl, koRL, rfl, by decide⟩
theorem hwL_evening : Cond.codeWith yL_evening cL_evening 5 (some .int) hL_evening ∈ q_TB := q_TB_in (q_mt5 (List.mem_of_getElem? (i := 164) rfl)) rfl
def qL_sure : qM := (yL_sure, cL_sure, 6, some .int)
abbrev hL_sure : List (Nat × Nat × Nat × Nat) := [(0, 12, 15, 31), (0, 12, 19, 13)]
def zL_sure : List (List qO) := [[(4, 0, 4, 0, 0, 0, 0, []), (0, 2, 0, 0, 0, 0, 0, []), (4, 3, 0, 0, 0, 0, 0, []), (2, 4, 1, 0, 0, 0, 0, []), (2, 5, 2, 0, 0, 0, 0, []), (2, 6, 3, 0, 0, 0, 0, []), (50, 7, 1, 0, 0, 0, 0, [])],
  [(44, 7, 20, 4, 1, 0, 0, [(0, 0)]), (16, 10, 0, 0, 0, 0, 0, []), (41, 11, 0, 0, 0, 0, 0, []), (24, 12, 2, 0, 0, 0, 0, [])],
  [(0, 23, 0, 0, 0, 0, 0, []), (45, 24, 0, 0, 0, 0, 0, [])]]
theorem zbL_sure : q_nth zL_sure 0 = [(4, 0, 4, 0, 0, 0, 0, []), (0, 2, 0, 0, 0, 0, 0, []), (4, 3, 0, 0, 0, 0, 0, []), (2, 4, 1, 0, 0, 0, 0, []), (2, 5, 2, 0, 0, 0, 0, []), (2, 6, 3, 0, 0, 0, 0, []), (50, 7, 1, 0, 0, 0, 0, [])] ∧ q_nth zL_sure 1 = [(44, 7, 20, 4, 1, 0, 0, [(0, 0)]), (16, 10, 0, 0, 0, 0, 0, []), (41, 11, 0, 0, 0, 0, 0, []), (24, 12, 2, 0, 0, 0, 0, [])] ∧ q_nth zL_sure 2 = [(0, 23, 0, 0, 0, 0, 0, []), (45, 24, 0, 0, 0, 0, 0, [])] := ⟨rfl, rfl, rfl⟩
set_option maxRecDepth 100000 in
theorem zoL_sure : q_wok qL_sure "BlockedCarsLaw" kpRL [0, 7, 23] zL_sure 6 := ⟨rfl, by decide +kernel, rfl, by decide +kernel, rfl, koRL, rfl, by decide⟩
theorem hwL_sure : Cond.codeWith yL_sure cL_sure 6 (some .int) hL_sure ∈ q_TB := q_TB_in (q_mt5 (List.mem_of_getElem? (i := 184) rfl)) rfl
def qL_leaks : qM := (yL_leaks, cL_leaks, 4, some .int)
abbrev hL_leaks : List (Nat × Nat × Nat × Nat) := [(0, 9, 12, 13)]
def zL_leaks : List (List qO) := [[(4, 0, 2, 0, 0, 0, 0, []), (0, 1, 0, 0, 0, 0, 0, []), (4, 2, 0, 0, 0, 0, 0, []), (2, 3, 1, 0, 0, 0, 0, []), (50, 4, 1, 0, 0, 0, 0, [])],
  [(44, 4, 21, 2, 1, 0, 0, [(0, 0)]), (16, 7, 0, 0, 0, 0, 0, []), (41, 8, 0, 0, 0, 0, 0, []), (24, 9, 2, 0, 0, 0, 0, [])],
  [(0, 15, 0, 0, 0, 0, 0, []), (45, 16, 0, 0, 0, 0, 0, [])]]
theorem zbL_leaks : q_nth zL_leaks 0 = [(4, 0, 2, 0, 0, 0, 0, []), (0, 1, 0, 0, 0, 0, 0, []), (4, 2, 0, 0, 0, 0, 0, []), (2, 3, 1, 0, 0, 0, 0, []), (50, 4, 1, 0, 0, 0, 0, [])] ∧ q_nth zL_leaks 1 = [(44, 4, 21, 2, 1, 0, 0, [(0, 0)]), (16, 7, 0, 0, 0, 0, 0, []), (41, 8, 0, 0, 0, 0, 0, []), (24, 9, 2, 0, 0, 0, 0, [])] ∧ q_nth zL_leaks 2 = [(0, 15, 0, 0, 0, 0, 0, []), (45, 16, 0, 0, 0, 0, 0, [])] := ⟨rfl, rfl, rfl⟩
set_option maxRecDepth 100000 in
theorem zoL_leaks : q_wok qL_leaks "BlockedCarsLaw" kpRL [0, 4, 15] zL_leaks 4 := ⟨rfl, by decide +kernel, rfl, by decide +kernel, rfl, koRL, rfl, by decide⟩
theorem hwL_leaks : Cond.codeWith yL_leaks cL_leaks 4 (some .int) hL_leaks ∈ q_TB := q_TB_in (q_mt5 (List.mem_of_getElem? (i := 191) rfl)) rfl
def qL_look : qM := (yL_look, cL_look, 4, some .int)
abbrev hL_look : List (Nat × Nat × Nat × Nat) := [(0, 9, 12, 13)]
def zL_look : List (List qO) := [[(4, 0, 2, 0, 0, 0, 0, []), (0, 1, 0, 0, 0, 0, 0, []), (4, 2, 0, 0, 0, 0, 0, []), (2, 3, 1, 0, 0, 0, 0, []), (50, 4, 1, 0, 0, 0, 0, [])],
  [(44, 4, 22, 2, 1, 0, 0, [(0, 0)]), (16, 7, 0, 0, 0, 0, 0, []), (41, 8, 0, 0, 0, 0, 0, []), (24, 9, 2, 0, 0, 0, 0, [])],
  [(0, 15, 0, 0, 0, 0, 0, []), (45, 16, 0, 0, 0, 0, 0, [])]]
theorem zbL_look : q_nth zL_look 0 = [(4, 0, 2, 0, 0, 0, 0, []), (0, 1, 0, 0, 0, 0, 0, []), (4, 2, 0, 0, 0, 0, 0, []), (2, 3, 1, 0, 0, 0, 0, []), (50, 4, 1, 0, 0, 0, 0, [])] ∧ q_nth zL_look 1 = [(44, 4, 22, 2, 1, 0, 0, [(0, 0)]), (16, 7, 0, 0, 0, 0, 0, []), (41, 8, 0, 0, 0, 0, 0, []), (24, 9, 2, 0, 0, 0, 0, [])] ∧ q_nth zL_look 2 = [(0, 15, 0, 0, 0, 0, 0, []), (45, 16, 0, 0, 0, 0, 0, [])] := ⟨rfl, rfl, rfl⟩
set_option maxRecDepth 100000 in
theorem zoL_look : q_wok qL_look "BlockedCarsLaw" kpRL [0, 4, 15] zL_look 4 := ⟨rfl, by decide +kernel, rfl, by decide +kernel, rfl, koRL, rfl, by decide⟩
theorem hwL_look : Cond.codeWith yL_look cL_look 4 (some .int) hL_look ∈ q_TB := q_TB_in (q_mt5 (List.mem_of_getElem? (i := 219) rfl)) rfl
def qL_fronts : qM := (yL_fronts, cL_fronts, 7, some .int)
abbrev hL_fronts : List (Nat × Nat × Nat × Nat) := [(0, 14, 17, 13)]
def zL_fronts : List (List qO) := [[(4, 0, 5, 0, 0, 0, 0, []), (0, 2, 0, 0, 0, 0, 0, []), (4, 3, 0, 0, 0, 0, 0, []), (2, 4, 1, 0, 0, 0, 0, []), (2, 5, 2, 0, 0, 0, 0, []), (2, 6, 3, 0, 0, 0, 0, []), (2, 7, 4, 0, 0, 0, 0, []), (50, 9, 1, 0, 0, 0, 0, [])],
  [(44, 9, 23, 5, 1, 0, 0, [(0, 0)]), (16, 12, 0, 0, 0, 0, 0, []), (41, 13, 0, 0, 0, 0, 0, []), (24, 14, 2, 0, 0, 0, 0, [])],
  [(0, 21, 0, 0, 0, 0, 0, []), (45, 22, 0, 0, 0, 0, 0, [])]]
theorem zbL_fronts : q_nth zL_fronts 0 = [(4, 0, 5, 0, 0, 0, 0, []), (0, 2, 0, 0, 0, 0, 0, []), (4, 3, 0, 0, 0, 0, 0, []), (2, 4, 1, 0, 0, 0, 0, []), (2, 5, 2, 0, 0, 0, 0, []), (2, 6, 3, 0, 0, 0, 0, []), (2, 7, 4, 0, 0, 0, 0, []), (50, 9, 1, 0, 0, 0, 0, [])] ∧ q_nth zL_fronts 1 = [(44, 9, 23, 5, 1, 0, 0, [(0, 0)]), (16, 12, 0, 0, 0, 0, 0, []), (41, 13, 0, 0, 0, 0, 0, []), (24, 14, 2, 0, 0, 0, 0, [])] ∧ q_nth zL_fronts 2 = [(0, 21, 0, 0, 0, 0, 0, []), (45, 22, 0, 0, 0, 0, 0, [])] := ⟨rfl, rfl, rfl⟩
set_option maxRecDepth 100000 in
theorem zoL_fronts : q_wok qL_fronts "BlockedCarsLaw" kpRL [0, 9, 21] zL_fronts 7 := ⟨rfl, by decide +kernel, rfl, by decide +kernel, rfl, koRL, rfl, by decide⟩
theorem hwL_fronts : Cond.codeWith yL_fronts cL_fronts 7 (some .int) hL_fronts ∈ q_TB := q_TB_in (q_mt5 (List.mem_of_getElem? (i := 237) rfl)) rfl
def qL_pays : qM := (yL_pays, cL_pays, 6, some .int)
abbrev hL_pays : List (Nat × Nat × Nat × Nat) := [(0, 12, 15, 31), (0, 12, 19, 13)]
def zL_pays : List (List qO) := [[(4, 0, 4, 0, 0, 0, 0, []), (0, 2, 0, 0, 0, 0, 0, []), (4, 3, 0, 0, 0, 0, 0, []), (2, 4, 1, 0, 0, 0, 0, []), (2, 5, 2, 0, 0, 0, 0, []), (2, 6, 3, 0, 0, 0, 0, []), (50, 7, 1, 0, 0, 0, 0, [])],
  [(44, 7, 24, 4, 1, 0, 0, [(0, 0)]), (16, 10, 0, 0, 0, 0, 0, []), (41, 11, 0, 0, 0, 0, 0, []), (24, 12, 2, 0, 0, 0, 0, [])],
  [(0, 23, 0, 0, 0, 0, 0, []), (45, 24, 0, 0, 0, 0, 0, [])]]
theorem zbL_pays : q_nth zL_pays 0 = [(4, 0, 4, 0, 0, 0, 0, []), (0, 2, 0, 0, 0, 0, 0, []), (4, 3, 0, 0, 0, 0, 0, []), (2, 4, 1, 0, 0, 0, 0, []), (2, 5, 2, 0, 0, 0, 0, []), (2, 6, 3, 0, 0, 0, 0, []), (50, 7, 1, 0, 0, 0, 0, [])] ∧ q_nth zL_pays 1 = [(44, 7, 24, 4, 1, 0, 0, [(0, 0)]), (16, 10, 0, 0, 0, 0, 0, []), (41, 11, 0, 0, 0, 0, 0, []), (24, 12, 2, 0, 0, 0, 0, [])] ∧ q_nth zL_pays 2 = [(0, 23, 0, 0, 0, 0, 0, []), (45, 24, 0, 0, 0, 0, 0, [])] := ⟨rfl, rfl, rfl⟩
set_option maxRecDepth 100000 in
theorem zoL_pays : q_wok qL_pays "BlockedCarsLaw" kpRL [0, 7, 23] zL_pays 6 := ⟨rfl, by decide +kernel, rfl, by decide +kernel, rfl, koRL, rfl, by decide⟩
theorem hwL_pays : Cond.codeWith yL_pays cL_pays 6 (some .int) hL_pays ∈ q_TB := q_TB_in (q_mt6 (List.mem_of_getElem? (i := 10) rfl)) rfl
def qL_spare : qM := (yL_spare, cL_spare, 4, some .int)
abbrev hL_spare : List (Nat × Nat × Nat × Nat) := [(0, 9, 12, 13)]
def zL_spare : List (List qO) := [[(4, 0, 2, 0, 0, 0, 0, []), (0, 1, 0, 0, 0, 0, 0, []), (4, 2, 0, 0, 0, 0, 0, []), (2, 3, 1, 0, 0, 0, 0, []), (50, 4, 1, 0, 0, 0, 0, [])],
  [(44, 4, 25, 2, 1, 0, 0, [(0, 0)]), (16, 7, 0, 0, 0, 0, 0, []), (41, 8, 0, 0, 0, 0, 0, []), (24, 9, 2, 0, 0, 0, 0, [])],
  [(0, 15, 0, 0, 0, 0, 0, []), (45, 16, 0, 0, 0, 0, 0, [])]]
theorem zbL_spare : q_nth zL_spare 0 = [(4, 0, 2, 0, 0, 0, 0, []), (0, 1, 0, 0, 0, 0, 0, []), (4, 2, 0, 0, 0, 0, 0, []), (2, 3, 1, 0, 0, 0, 0, []), (50, 4, 1, 0, 0, 0, 0, [])] ∧ q_nth zL_spare 1 = [(44, 4, 25, 2, 1, 0, 0, [(0, 0)]), (16, 7, 0, 0, 0, 0, 0, []), (41, 8, 0, 0, 0, 0, 0, []), (24, 9, 2, 0, 0, 0, 0, [])] ∧ q_nth zL_spare 2 = [(0, 15, 0, 0, 0, 0, 0, []), (45, 16, 0, 0, 0, 0, 0, [])] := ⟨rfl, rfl, rfl⟩
set_option maxRecDepth 100000 in
theorem zoL_spare : q_wok qL_spare "BlockedCarsLaw" kpRL [0, 4, 15] zL_spare 4 := ⟨rfl, by decide +kernel, rfl, by decide +kernel, rfl, koRL, rfl, by decide⟩
theorem hwL_spare : Cond.codeWith yL_spare cL_spare 4 (some .int) hL_spare ∈ q_TB := q_TB_in (q_mt6 (List.mem_of_getElem? (i := 22) rfl)) rfl
def qL_next : qM := (yL_next, cL_next, 4, some .int)
abbrev hL_next : List (Nat × Nat × Nat × Nat) := [(0, 9, 12, 13)]
def zL_next : List (List qO) := [[(4, 0, 2, 0, 0, 0, 0, []), (0, 1, 0, 0, 0, 0, 0, []), (4, 2, 0, 0, 0, 0, 0, []), (2, 3, 1, 0, 0, 0, 0, []), (50, 4, 1, 0, 0, 0, 0, [])],
  [(44, 4, 26, 2, 1, 0, 0, [(0, 0)]), (16, 7, 0, 0, 0, 0, 0, []), (41, 8, 0, 0, 0, 0, 0, []), (24, 9, 2, 0, 0, 0, 0, [])],
  [(0, 15, 0, 0, 0, 0, 0, []), (45, 16, 0, 0, 0, 0, 0, [])]]
theorem zbL_next : q_nth zL_next 0 = [(4, 0, 2, 0, 0, 0, 0, []), (0, 1, 0, 0, 0, 0, 0, []), (4, 2, 0, 0, 0, 0, 0, []), (2, 3, 1, 0, 0, 0, 0, []), (50, 4, 1, 0, 0, 0, 0, [])] ∧ q_nth zL_next 1 = [(44, 4, 26, 2, 1, 0, 0, [(0, 0)]), (16, 7, 0, 0, 0, 0, 0, []), (41, 8, 0, 0, 0, 0, 0, []), (24, 9, 2, 0, 0, 0, 0, [])] ∧ q_nth zL_next 2 = [(0, 15, 0, 0, 0, 0, 0, []), (45, 16, 0, 0, 0, 0, 0, [])] := ⟨rfl, rfl, rfl⟩
set_option maxRecDepth 100000 in
theorem zoL_next : q_wok qL_next "BlockedCarsLaw" kpRL [0, 4, 15] zL_next 4 := ⟨rfl, by decide +kernel, rfl, by decide +kernel, rfl, koRL, rfl, by decide⟩
theorem hwL_next : Cond.codeWith yL_next cL_next 4 (some .int) hL_next ∈ q_TB := q_TB_in (q_mt6 (List.mem_of_getElem? (i := 29) rfl)) rfl
def qL_most : qM := (yL_most, cL_most, 4, some .int)
abbrev hL_most : List (Nat × Nat × Nat × Nat) := [(0, 9, 12, 13)]
def zL_most : List (List qO) := [[(4, 0, 2, 0, 0, 0, 0, []), (0, 1, 0, 0, 0, 0, 0, []), (4, 2, 0, 0, 0, 0, 0, []), (2, 3, 1, 0, 0, 0, 0, []), (50, 4, 1, 0, 0, 0, 0, [])],
  [(44, 4, 27, 2, 1, 0, 0, [(0, 0)]), (16, 7, 0, 0, 0, 0, 0, []), (41, 8, 0, 0, 0, 0, 0, []), (24, 9, 2, 0, 0, 0, 0, [])],
  [(0, 15, 0, 0, 0, 0, 0, []), (45, 16, 0, 0, 0, 0, 0, [])]]
theorem zbL_most : q_nth zL_most 0 = [(4, 0, 2, 0, 0, 0, 0, []), (0, 1, 0, 0, 0, 0, 0, []), (4, 2, 0, 0, 0, 0, 0, []), (2, 3, 1, 0, 0, 0, 0, []), (50, 4, 1, 0, 0, 0, 0, [])] ∧ q_nth zL_most 1 = [(44, 4, 27, 2, 1, 0, 0, [(0, 0)]), (16, 7, 0, 0, 0, 0, 0, []), (41, 8, 0, 0, 0, 0, 0, []), (24, 9, 2, 0, 0, 0, 0, [])] ∧ q_nth zL_most 2 = [(0, 15, 0, 0, 0, 0, 0, []), (45, 16, 0, 0, 0, 0, 0, [])] := ⟨rfl, rfl, rfl⟩
set_option maxRecDepth 100000 in
theorem zoL_most : q_wok qL_most "BlockedCarsLaw" kpRL [0, 4, 15] zL_most 4 := ⟨rfl, by decide +kernel, rfl, by decide +kernel, rfl, koRL, rfl, by decide⟩
theorem hwL_most : Cond.codeWith yL_most cL_most 4 (some .int) hL_most ∈ q_TB := q_TB_in (q_mt6 (List.mem_of_getElem? (i := 37) rfl)) rfl
def qL_days : qM := (yL_days, cL_days, 7, some .int)
abbrev hL_days : List (Nat × Nat × Nat × Nat) := [(0, 14, 17, 13)]
def zL_days : List (List qO) := [[(4, 0, 5, 0, 0, 0, 0, []), (0, 2, 0, 0, 0, 0, 0, []), (4, 3, 0, 0, 0, 0, 0, []), (2, 4, 1, 0, 0, 0, 0, []), (2, 5, 2, 0, 0, 0, 0, []), (2, 6, 3, 0, 0, 0, 0, []), (2, 7, 4, 0, 0, 0, 0, []), (50, 9, 1, 0, 0, 0, 0, [])],
  [(44, 9, 28, 5, 1, 0, 0, [(0, 0)]), (16, 12, 0, 0, 0, 0, 0, []), (41, 13, 0, 0, 0, 0, 0, []), (24, 14, 2, 0, 0, 0, 0, [])],
  [(0, 21, 0, 0, 0, 0, 0, []), (45, 22, 0, 0, 0, 0, 0, [])]]
theorem zbL_days : q_nth zL_days 0 = [(4, 0, 5, 0, 0, 0, 0, []), (0, 2, 0, 0, 0, 0, 0, []), (4, 3, 0, 0, 0, 0, 0, []), (2, 4, 1, 0, 0, 0, 0, []), (2, 5, 2, 0, 0, 0, 0, []), (2, 6, 3, 0, 0, 0, 0, []), (2, 7, 4, 0, 0, 0, 0, []), (50, 9, 1, 0, 0, 0, 0, [])] ∧ q_nth zL_days 1 = [(44, 9, 28, 5, 1, 0, 0, [(0, 0)]), (16, 12, 0, 0, 0, 0, 0, []), (41, 13, 0, 0, 0, 0, 0, []), (24, 14, 2, 0, 0, 0, 0, [])] ∧ q_nth zL_days 2 = [(0, 21, 0, 0, 0, 0, 0, []), (45, 22, 0, 0, 0, 0, 0, [])] := ⟨rfl, rfl, rfl⟩
set_option maxRecDepth 100000 in
theorem zoL_days : q_wok qL_days "BlockedCarsLaw" kpRL [0, 9, 21] zL_days 7 := ⟨rfl, by decide +kernel, rfl, by decide +kernel, rfl, koRL, rfl, by decide⟩
theorem hwL_days : Cond.codeWith yL_days cL_days 7 (some .int) hL_days ∈ q_TB := q_TB_in (q_mt6 (List.mem_of_getElem? (i := 44) rfl)) rfl
def qL_span : qM := (yL_span, cL_span, 9, some .int)
abbrev hL_span : List (Nat × Nat × Nat × Nat) := [(0, 18, 21, 13)]
def zL_span : List (List qO) := [[(4, 0, 7, 0, 0, 0, 0, []), (0, 2, 0, 0, 0, 0, 0, []), (4, 3, 0, 0, 0, 0, 0, []), (2, 4, 1, 0, 0, 0, 0, []), (2, 5, 2, 0, 0, 0, 0, []), (2, 6, 3, 0, 0, 0, 0, []), (2, 7, 4, 0, 0, 0, 0, []), (2, 9, 5, 0, 0, 0, 0, []), (2, 11, 6, 0, 0, 0, 0, []), (50, 13, 1, 0, 0, 0, 0, [])],
  [(44, 13, 29, 7, 1, 0, 0, [(0, 0)]), (16, 16, 0, 0, 0, 0, 0, []), (41, 17, 0, 0, 0, 0, 0, []), (24, 18, 2, 0, 0, 0, 0, [])],
  [(0, 25, 0, 0, 0, 0, 0, []), (45, 26, 0, 0, 0, 0, 0, [])]]
theorem zbL_span : q_nth zL_span 0 = [(4, 0, 7, 0, 0, 0, 0, []), (0, 2, 0, 0, 0, 0, 0, []), (4, 3, 0, 0, 0, 0, 0, []), (2, 4, 1, 0, 0, 0, 0, []), (2, 5, 2, 0, 0, 0, 0, []), (2, 6, 3, 0, 0, 0, 0, []), (2, 7, 4, 0, 0, 0, 0, []), (2, 9, 5, 0, 0, 0, 0, []), (2, 11, 6, 0, 0, 0, 0, []), (50, 13, 1, 0, 0, 0, 0, [])] ∧ q_nth zL_span 1 = [(44, 13, 29, 7, 1, 0, 0, [(0, 0)]), (16, 16, 0, 0, 0, 0, 0, []), (41, 17, 0, 0, 0, 0, 0, []), (24, 18, 2, 0, 0, 0, 0, [])] ∧ q_nth zL_span 2 = [(0, 25, 0, 0, 0, 0, 0, []), (45, 26, 0, 0, 0, 0, 0, [])] := ⟨rfl, rfl, rfl⟩
set_option maxRecDepth 100000 in
theorem zoL_span : q_wok qL_span "BlockedCarsLaw" kpRL [0, 13, 25] zL_span 9 := ⟨rfl, by decide +kernel, rfl, by decide +kernel, rfl, koRL, rfl, by decide⟩
theorem hwL_span : Cond.codeWith yL_span cL_span 9 (some .int) hL_span ∈ q_TB := q_TB_in (q_mt6 (List.mem_of_getElem? (i := 72) rfl)) rfl
