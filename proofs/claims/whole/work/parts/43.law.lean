abbrev mL_law : tq_M := (x, code, 4, (some .boolean), 154, 9757)
theorem moX11_after : tq_mok mX11_after 3 := ⟨tq_sg1 _ (List.mem_of_getElem? (i := 1) rfl), tq_sg5 _ (List.mem_of_getElem? (i := 212) rfl), ⟨by decide, by decide, by decide +kernel⟩, by decide⟩
theorem mvX11_after : 11 < 13 ∧ (tq_cl 11).1 = mX11_after.1.cls ∧ Cond.instanceMethod mX11_after.1 ∈ lw_tbl ∧ Cond.selects mX11_after.1.cls mX11_after.1 mX11_after.1 ∈ lw_tbl := ⟨by decide, rfl, tq_sg5 _ (List.mem_of_getElem? (i := 210) rfl), tq_sg5 _ (List.mem_of_getElem? (i := 211) rfl)⟩
theorem moX11_again : tq_mok mX11_again 1 := ⟨tq_sg1 _ (List.mem_of_getElem? (i := 1) rfl), tq_sg6 _ (List.mem_of_getElem? (i := 66) rfl), ⟨by decide, by decide, by decide +kernel⟩, by decide⟩
theorem mvX11_again : 11 < 13 ∧ (tq_cl 11).1 = mX11_again.1.cls ∧ Cond.instanceMethod mX11_again.1 ∈ lw_tbl ∧ Cond.selects mX11_again.1.cls mX11_again.1 mX11_again.1 ∈ lw_tbl := ⟨by decide, rfl, tq_sg6 _ (List.mem_of_getElem? (i := 64) rfl), tq_sg6 _ (List.mem_of_getElem? (i := 65) rfl)⟩
theorem moX11_border : tq_mok mX11_border 2 := ⟨tq_sg1 _ (List.mem_of_getElem? (i := 1) rfl), tq_sg4 _ (List.mem_of_getElem? (i := 202) rfl), ⟨by decide, by decide, by decide +kernel⟩, by decide⟩
theorem mvX11_border : 11 < 13 ∧ (tq_cl 11).1 = mX11_border.1.cls ∧ Cond.instanceMethod mX11_border.1 ∈ lw_tbl ∧ Cond.selects mX11_border.1.cls mX11_border.1 mX11_border.1 ∈ lw_tbl := ⟨by decide, rfl, tq_sg4 _ (List.mem_of_getElem? (i := 200) rfl), tq_sg4 _ (List.mem_of_getElem? (i := 201) rfl)⟩
theorem moX11_caves : tq_mok mX11_caves 2 := ⟨tq_sg1 _ (List.mem_of_getElem? (i := 1) rfl), tq_sg5 _ (List.mem_of_getElem? (i := 158) rfl), ⟨by decide, by decide, by decide +kernel⟩, by decide⟩
theorem mvX11_caves : 11 < 13 ∧ (tq_cl 11).1 = mX11_caves.1.cls ∧ Cond.instanceMethod mX11_caves.1 ∈ lw_tbl ∧ Cond.selects mX11_caves.1.cls mX11_caves.1 mX11_caves.1 ∈ lw_tbl := ⟨by decide, rfl, tq_sg5 _ (List.mem_of_getElem? (i := 156) rfl), tq_sg5 _ (List.mem_of_getElem? (i := 157) rfl)⟩
theorem moX11_comes : tq_mok mX11_comes 3 := ⟨tq_sg1 _ (List.mem_of_getElem? (i := 1) rfl), tq_sg6 _ (List.mem_of_getElem? (i := 6) rfl), ⟨by decide, by decide, by decide +kernel⟩, by decide⟩
theorem mvX11_comes : 11 < 13 ∧ (tq_cl 11).1 = mX11_comes.1.cls ∧ Cond.instanceMethod mX11_comes.1 ∈ lw_tbl ∧ Cond.selects mX11_comes.1.cls mX11_comes.1 mX11_comes.1 ∈ lw_tbl := ⟨by decide, rfl, tq_sg6 _ (List.mem_of_getElem? (i := 4) rfl), tq_sg6 _ (List.mem_of_getElem? (i := 5) rfl)⟩
theorem moX11_count : tq_mok mX11_count 1 := ⟨tq_sg1 _ (List.mem_of_getElem? (i := 1) rfl), tq_sg6 _ (List.mem_of_getElem? (i := 53) rfl), ⟨by decide, by decide, by decide +kernel⟩, by decide⟩
theorem mvX11_count : 11 < 13 ∧ (tq_cl 11).1 = mX11_count.1.cls ∧ Cond.instanceMethod mX11_count.1 ∈ lw_tbl ∧ Cond.selects mX11_count.1.cls mX11_count.1 mX11_count.1 ∈ lw_tbl := ⟨by decide, rfl, tq_sg6 _ (List.mem_of_getElem? (i := 51) rfl), tq_sg6 _ (List.mem_of_getElem? (i := 52) rfl)⟩
theorem moX11_crest : tq_mok mX11_crest 2 := ⟨tq_sg1 _ (List.mem_of_getElem? (i := 1) rfl), tq_sg6 _ (List.mem_of_getElem? (i := 11) rfl), ⟨by decide, by decide, by decide +kernel⟩, by decide⟩
theorem mvX11_crest : 11 < 13 ∧ (tq_cl 11).1 = mX11_crest.1.cls ∧ Cond.instanceMethod mX11_crest.1 ∈ lw_tbl ∧ Cond.selects mX11_crest.1.cls mX11_crest.1 mX11_crest.1 ∈ lw_tbl := ⟨by decide, rfl, tq_sg6 _ (List.mem_of_getElem? (i := 9) rfl), tq_sg6 _ (List.mem_of_getElem? (i := 10) rfl)⟩
theorem moX11_cuts : tq_mok mX11_cuts 4 := ⟨tq_sg1 _ (List.mem_of_getElem? (i := 1) rfl), tq_sg4 _ (List.mem_of_getElem? (i := 116) rfl), ⟨by decide, by decide, by decide +kernel⟩, by decide⟩
theorem mvX11_cuts : 11 < 13 ∧ (tq_cl 11).1 = mX11_cuts.1.cls ∧ Cond.instanceMethod mX11_cuts.1 ∈ lw_tbl ∧ Cond.selects mX11_cuts.1.cls mX11_cuts.1 mX11_cuts.1 ∈ lw_tbl := ⟨by decide, rfl, tq_sg4 _ (List.mem_of_getElem? (i := 114) rfl), tq_sg4 _ (List.mem_of_getElem? (i := 115) rfl)⟩
theorem moX11_deed : tq_mok mX11_deed 3 := ⟨tq_sg1 _ (List.mem_of_getElem? (i := 1) rfl), tq_sg3 _ (List.mem_of_getElem? (i := 225) rfl), ⟨by decide, by decide, by decide +kernel⟩, by decide⟩
theorem mvX11_deed : 11 < 13 ∧ (tq_cl 11).1 = mX11_deed.1.cls ∧ Cond.instanceMethod mX11_deed.1 ∈ lw_tbl ∧ Cond.selects mX11_deed.1.cls mX11_deed.1 mX11_deed.1 ∈ lw_tbl := ⟨by decide, rfl, tq_sg3 _ (List.mem_of_getElem? (i := 223) rfl), tq_sg3 _ (List.mem_of_getElem? (i := 224) rfl)⟩
theorem moX11_deepest : tq_mok mX11_deepest 1 := ⟨tq_sg1 _ (List.mem_of_getElem? (i := 1) rfl), tq_sg6 _ (List.mem_of_getElem? (i := 46) rfl), ⟨by decide, by decide, by decide +kernel⟩, by decide⟩
theorem mvX11_deepest : 11 < 13 ∧ (tq_cl 11).1 = mX11_deepest.1.cls ∧ Cond.instanceMethod mX11_deepest.1 ∈ lw_tbl ∧ Cond.selects mX11_deepest.1.cls mX11_deepest.1 mX11_deepest.1 ∈ lw_tbl := ⟨by decide, rfl, tq_sg6 _ (List.mem_of_getElem? (i := 44) rfl), tq_sg6 _ (List.mem_of_getElem? (i := 45) rfl)⟩
theorem moX11_drawn : tq_mok mX11_drawn 4 := ⟨tq_sg1 _ (List.mem_of_getElem? (i := 1) rfl), tq_sg5 _ (List.mem_of_getElem? (i := 130) rfl), ⟨by decide, by decide, by decide +kernel⟩, by decide⟩
theorem mvX11_drawn : 11 < 13 ∧ (tq_cl 11).1 = mX11_drawn.1.cls ∧ Cond.instanceMethod mX11_drawn.1 ∈ lw_tbl ∧ Cond.selects mX11_drawn.1.cls mX11_drawn.1 mX11_drawn.1 ∈ lw_tbl := ⟨by decide, rfl, tq_sg5 _ (List.mem_of_getElem? (i := 128) rfl), tq_sg5 _ (List.mem_of_getElem? (i := 129) rfl)⟩
theorem moX11_duel : tq_mok mX11_duel 3 := ⟨tq_sg1 _ (List.mem_of_getElem? (i := 1) rfl), tq_sg4 _ (List.mem_of_getElem? (i := 187) rfl), ⟨by decide, by decide, by decide +kernel⟩, by decide⟩
theorem mvX11_duel : 11 < 13 ∧ (tq_cl 11).1 = mX11_duel.1.cls ∧ Cond.instanceMethod mX11_duel.1 ∈ lw_tbl ∧ Cond.selects mX11_duel.1.cls mX11_duel.1 mX11_duel.1 ∈ lw_tbl := ⟨by decide, rfl, tq_sg4 _ (List.mem_of_getElem? (i := 185) rfl), tq_sg4 _ (List.mem_of_getElem? (i := 186) rfl)⟩
theorem moX11_end : tq_mok mX11_end 1 := ⟨tq_sg1 _ (List.mem_of_getElem? (i := 1) rfl), tq_sg2 _ (List.mem_of_getElem? (i := 163) rfl), ⟨by decide, by decide, by decide +kernel⟩, by decide⟩
theorem mvX11_end : 11 < 13 ∧ (tq_cl 11).1 = mX11_end.1.cls ∧ Cond.instanceMethod mX11_end.1 ∈ lw_tbl ∧ Cond.selects mX11_end.1.cls mX11_end.1 mX11_end.1 ∈ lw_tbl := ⟨by decide, rfl, tq_sg2 _ (List.mem_of_getElem? (i := 161) rfl), tq_sg2 _ (List.mem_of_getElem? (i := 162) rfl)⟩
theorem moX11_fact : tq_mok mX11_fact 3 := ⟨tq_sg1 _ (List.mem_of_getElem? (i := 1) rfl), tq_sg5 _ (List.mem_of_getElem? (i := 23) rfl), ⟨by decide, by decide, by decide +kernel⟩, by decide⟩
theorem mvX11_fact : 11 < 13 ∧ (tq_cl 11).1 = mX11_fact.1.cls ∧ Cond.instanceMethod mX11_fact.1 ∈ lw_tbl ∧ Cond.selects mX11_fact.1.cls mX11_fact.1 mX11_fact.1 ∈ lw_tbl := ⟨by decide, rfl, tq_sg5 _ (List.mem_of_getElem? (i := 21) rfl), tq_sg5 _ (List.mem_of_getElem? (i := 22) rfl)⟩
theorem moX11_fault : tq_mok mX11_fault 1 := ⟨tq_sg1 _ (List.mem_of_getElem? (i := 1) rfl), tq_sg3 _ (List.mem_of_getElem? (i := 180) rfl), ⟨by decide, by decide, by decide +kernel⟩, by decide⟩
theorem mvX11_fault : 11 < 13 ∧ (tq_cl 11).1 = mX11_fault.1.cls ∧ Cond.instanceMethod mX11_fault.1 ∈ lw_tbl ∧ Cond.selects mX11_fault.1.cls mX11_fault.1 mX11_fault.1 ∈ lw_tbl := ⟨by decide, rfl, tq_sg3 _ (List.mem_of_getElem? (i := 178) rfl), tq_sg3 _ (List.mem_of_getElem? (i := 179) rfl)⟩
theorem moX11_feed : tq_mok mX11_feed 5 := ⟨tq_sg1 _ (List.mem_of_getElem? (i := 1) rfl), tq_sg2 _ (List.mem_of_getElem? (i := 155) rfl), ⟨by decide, by decide, by decide +kernel⟩, by decide⟩
theorem mvX11_feed : 11 < 13 ∧ (tq_cl 11).1 = mX11_feed.1.cls ∧ Cond.instanceMethod mX11_feed.1 ∈ lw_tbl ∧ Cond.selects mX11_feed.1.cls mX11_feed.1 mX11_feed.1 ∈ lw_tbl := ⟨by decide, rfl, tq_sg2 _ (List.mem_of_getElem? (i := 153) rfl), tq_sg2 _ (List.mem_of_getElem? (i := 154) rfl)⟩
theorem moX11_fell : tq_mok mX11_fell 2 := ⟨tq_sg1 _ (List.mem_of_getElem? (i := 1) rfl), tq_sg4 _ (List.mem_of_getElem? (i := 142) rfl), ⟨by decide, by decide, by decide +kernel⟩, by decide⟩
theorem mvX11_fell : 11 < 13 ∧ (tq_cl 11).1 = mX11_fell.1.cls ∧ Cond.instanceMethod mX11_fell.1 ∈ lw_tbl ∧ Cond.selects mX11_fell.1.cls mX11_fell.1 mX11_fell.1 ∈ lw_tbl := ⟨by decide, rfl, tq_sg4 _ (List.mem_of_getElem? (i := 140) rfl), tq_sg4 _ (List.mem_of_getElem? (i := 141) rfl)⟩
theorem moX11_fits : tq_mok mX11_fits 2 := ⟨tq_sg1 _ (List.mem_of_getElem? (i := 1) rfl), tq_sg5 _ (List.mem_of_getElem? (i := 39) rfl), ⟨by decide, by decide, by decide +kernel⟩, by decide⟩
theorem mvX11_fits : 11 < 13 ∧ (tq_cl 11).1 = mX11_fits.1.cls ∧ Cond.instanceMethod mX11_fits.1 ∈ lw_tbl ∧ Cond.selects mX11_fits.1.cls mX11_fits.1 mX11_fits.1 ∈ lw_tbl := ⟨by decide, rfl, tq_sg5 _ (List.mem_of_getElem? (i := 37) rfl), tq_sg5 _ (List.mem_of_getElem? (i := 38) rfl)⟩
theorem moX11_hill : tq_mok mX11_hill 2 := ⟨tq_sg1 _ (List.mem_of_getElem? (i := 1) rfl), tq_sg3 _ (List.mem_of_getElem? (i := 184) rfl), ⟨by decide, by decide, by decide +kernel⟩, by decide⟩
theorem mvX11_hill : 11 < 13 ∧ (tq_cl 11).1 = mX11_hill.1.cls ∧ Cond.instanceMethod mX11_hill.1 ∈ lw_tbl ∧ Cond.selects mX11_hill.1.cls mX11_hill.1 mX11_hill.1 ∈ lw_tbl := ⟨by decide, rfl, tq_sg3 _ (List.mem_of_getElem? (i := 182) rfl), tq_sg3 _ (List.mem_of_getElem? (i := 183) rfl)⟩
theorem moX11_image : tq_mok mX11_image 1 := ⟨tq_sg1 _ (List.mem_of_getElem? (i := 1) rfl), tq_sg6 _ (List.mem_of_getElem? (i := 57) rfl), ⟨by decide, by decide, by decide +kernel⟩, by decide⟩
theorem mvX11_image : 11 < 13 ∧ (tq_cl 11).1 = mX11_image.1.cls ∧ Cond.instanceMethod mX11_image.1 ∈ lw_tbl ∧ Cond.selects mX11_image.1.cls mX11_image.1 mX11_image.1 ∈ lw_tbl := ⟨by decide, rfl, tq_sg6 _ (List.mem_of_getElem? (i := 55) rfl), tq_sg6 _ (List.mem_of_getElem? (i := 56) rfl)⟩
theorem moX11_nearer : tq_mok mX11_nearer 2 := ⟨tq_sg1 _ (List.mem_of_getElem? (i := 1) rfl), tq_sg5 _ (List.mem_of_getElem? (i := 187) rfl), ⟨by decide, by decide, by decide +kernel⟩, by decide⟩
theorem mvX11_nearer : 11 < 13 ∧ (tq_cl 11).1 = mX11_nearer.1.cls ∧ Cond.instanceMethod mX11_nearer.1 ∈ lw_tbl ∧ Cond.selects mX11_nearer.1.cls mX11_nearer.1 mX11_nearer.1 ∈ lw_tbl := ⟨by decide, rfl, tq_sg5 _ (List.mem_of_getElem? (i := 185) rfl), tq_sg5 _ (List.mem_of_getElem? (i := 186) rfl)⟩
theorem moX11_path : tq_mok mX11_path 1 := ⟨tq_sg1 _ (List.mem_of_getElem? (i := 1) rfl), tq_sg5 _ (List.mem_of_getElem? (i := 149) rfl), ⟨by decide, by decide, by decide +kernel⟩, by decide⟩
theorem mvX11_path : 11 < 13 ∧ (tq_cl 11).1 = mX11_path.1.cls ∧ Cond.instanceMethod mX11_path.1 ∈ lw_tbl ∧ Cond.selects mX11_path.1.cls mX11_path.1 mX11_path.1 ∈ lw_tbl := ⟨by decide, rfl, tq_sg5 _ (List.mem_of_getElem? (i := 147) rfl), tq_sg5 _ (List.mem_of_getElem? (i := 148) rfl)⟩
theorem moX11_pillars : tq_mok mX11_pillars 2 := ⟨tq_sg1 _ (List.mem_of_getElem? (i := 1) rfl), tq_sg5 _ (List.mem_of_getElem? (i := 179) rfl), ⟨by decide, by decide, by decide +kernel⟩, by decide⟩
theorem mvX11_pillars : 11 < 13 ∧ (tq_cl 11).1 = mX11_pillars.1.cls ∧ Cond.instanceMethod mX11_pillars.1 ∈ lw_tbl ∧ Cond.selects mX11_pillars.1.cls mX11_pillars.1 mX11_pillars.1 ∈ lw_tbl := ⟨by decide, rfl, tq_sg5 _ (List.mem_of_getElem? (i := 177) rfl), tq_sg5 _ (List.mem_of_getElem? (i := 178) rfl)⟩
theorem moX11_plain : tq_mok mX11_plain 2 := ⟨tq_sg1 _ (List.mem_of_getElem? (i := 1) rfl), tq_sg5 _ (List.mem_of_getElem? (i := 236) rfl), ⟨by decide, by decide, by decide +kernel⟩, by decide⟩
theorem mvX11_plain : 11 < 13 ∧ (tq_cl 11).1 = mX11_plain.1.cls ∧ Cond.instanceMethod mX11_plain.1 ∈ lw_tbl ∧ Cond.selects mX11_plain.1.cls mX11_plain.1 mX11_plain.1 ∈ lw_tbl := ⟨by decide, rfl, tq_sg5 _ (List.mem_of_getElem? (i := 234) rfl), tq_sg5 _ (List.mem_of_getElem? (i := 235) rfl)⟩
theorem moX11_propped : tq_mok mX11_propped 3 := ⟨tq_sg1 _ (List.mem_of_getElem? (i := 1) rfl), tq_sg4 _ (List.mem_of_getElem? (i := 223) rfl), ⟨by decide, by decide, by decide +kernel⟩, by decide⟩
theorem mvX11_propped : 11 < 13 ∧ (tq_cl 11).1 = mX11_propped.1.cls ∧ Cond.instanceMethod mX11_propped.1 ∈ lw_tbl ∧ Cond.selects mX11_propped.1.cls mX11_propped.1 mX11_propped.1 ∈ lw_tbl := ⟨by decide, rfl, tq_sg4 _ (List.mem_of_getElem? (i := 221) rfl), tq_sg4 _ (List.mem_of_getElem? (i := 222) rfl)⟩
theorem moX11_quake : tq_mok mX11_quake 3 := ⟨tq_sg1 _ (List.mem_of_getElem? (i := 1) rfl), tq_sg5 _ (List.mem_of_getElem? (i := 6) rfl), ⟨by decide, by decide, by decide +kernel⟩, by decide⟩
theorem mvX11_quake : 11 < 13 ∧ (tq_cl 11).1 = mX11_quake.1.cls ∧ Cond.instanceMethod mX11_quake.1 ∈ lw_tbl ∧ Cond.selects mX11_quake.1.cls mX11_quake.1 mX11_quake.1 ∈ lw_tbl := ⟨by decide, rfl, tq_sg5 _ (List.mem_of_getElem? (i := 4) rfl), tq_sg5 _ (List.mem_of_getElem? (i := 5) rfl)⟩
theorem moX11_race : tq_mok mX11_race 3 := ⟨tq_sg1 _ (List.mem_of_getElem? (i := 1) rfl), tq_sg5 _ (List.mem_of_getElem? (i := 204) rfl), ⟨by decide, by decide, by decide +kernel⟩, by decide⟩
theorem mvX11_race : 11 < 13 ∧ (tq_cl 11).1 = mX11_race.1.cls ∧ Cond.instanceMethod mX11_race.1 ∈ lw_tbl ∧ Cond.selects mX11_race.1.cls mX11_race.1 mX11_race.1 ∈ lw_tbl := ⟨by decide, rfl, tq_sg5 _ (List.mem_of_getElem? (i := 202) rfl), tq_sg5 _ (List.mem_of_getElem? (i := 203) rfl)⟩
theorem moX11_range : tq_mok mX11_range 3 := ⟨tq_sg1 _ (List.mem_of_getElem? (i := 1) rfl), tq_sg5 _ (List.mem_of_getElem? (i := 224) rfl), ⟨by decide, by decide, by decide +kernel⟩, by decide⟩
theorem mvX11_range : 11 < 13 ∧ (tq_cl 11).1 = mX11_range.1.cls ∧ Cond.instanceMethod mX11_range.1 ∈ lw_tbl ∧ Cond.selects mX11_range.1.cls mX11_range.1 mX11_range.1 ∈ lw_tbl := ⟨by decide, rfl, tq_sg5 _ (List.mem_of_getElem? (i := 222) rfl), tq_sg5 _ (List.mem_of_getElem? (i := 223) rfl)⟩
theorem moX11_rich : tq_mok mX11_rich 4 := ⟨tq_sg1 _ (List.mem_of_getElem? (i := 1) rfl), tq_sg4 _ (List.mem_of_getElem? (i := 157) rfl), ⟨by decide, by decide, by decide +kernel⟩, by decide⟩
theorem mvX11_rich : 11 < 13 ∧ (tq_cl 11).1 = mX11_rich.1.cls ∧ Cond.instanceMethod mX11_rich.1 ∈ lw_tbl ∧ Cond.selects mX11_rich.1.cls mX11_rich.1 mX11_rich.1 ∈ lw_tbl := ⟨by decide, rfl, tq_sg4 _ (List.mem_of_getElem? (i := 155) rfl), tq_sg4 _ (List.mem_of_getElem? (i := 156) rfl)⟩
theorem moX11_shored : tq_mok mX11_shored 3 := ⟨tq_sg1 _ (List.mem_of_getElem? (i := 1) rfl), tq_sg6 _ (List.mem_of_getElem? (i := 20) rfl), ⟨by decide, by decide, by decide +kernel⟩, by decide⟩
theorem mvX11_shored : 11 < 13 ∧ (tq_cl 11).1 = mX11_shored.1.cls ∧ Cond.instanceMethod mX11_shored.1 ∈ lw_tbl ∧ Cond.selects mX11_shored.1.cls mX11_shored.1 mX11_shored.1 ∈ lw_tbl := ⟨by decide, rfl, tq_sg6 _ (List.mem_of_getElem? (i := 18) rfl), tq_sg6 _ (List.mem_of_getElem? (i := 19) rfl)⟩
theorem moX11_state : tq_mok mX11_state 4 := ⟨tq_sg1 _ (List.mem_of_getElem? (i := 1) rfl), tq_sg4 _ (List.mem_of_getElem? (i := 92) rfl), ⟨by decide, by decide, by decide +kernel⟩, by decide⟩
theorem mvX11_state : 11 < 13 ∧ (tq_cl 11).1 = mX11_state.1.cls ∧ Cond.instanceMethod mX11_state.1 ∈ lw_tbl ∧ Cond.selects mX11_state.1.cls mX11_state.1 mX11_state.1 ∈ lw_tbl := ⟨by decide, rfl, tq_sg4 _ (List.mem_of_getElem? (i := 90) rfl), tq_sg4 _ (List.mem_of_getElem? (i := 91) rfl)⟩
theorem moX11_steady : tq_mok mX11_steady 3 := ⟨tq_sg1 _ (List.mem_of_getElem? (i := 1) rfl), tq_sg5 _ (List.mem_of_getElem? (i := 195) rfl), ⟨by decide, by decide, by decide +kernel⟩, by decide⟩
theorem mvX11_steady : 11 < 13 ∧ (tq_cl 11).1 = mX11_steady.1.cls ∧ Cond.instanceMethod mX11_steady.1 ∈ lw_tbl ∧ Cond.selects mX11_steady.1.cls mX11_steady.1 mX11_steady.1 ∈ lw_tbl := ⟨by decide, rfl, tq_sg5 _ (List.mem_of_getElem? (i := 193) rfl), tq_sg5 _ (List.mem_of_getElem? (i := 194) rfl)⟩
theorem moX11_stop : tq_mok mX11_stop 2 := ⟨tq_sg1 _ (List.mem_of_getElem? (i := 1) rfl), tq_sg4 _ (List.mem_of_getElem? (i := 5) rfl), ⟨by decide, by decide, by decide +kernel⟩, by decide⟩
theorem mvX11_stop : 11 < 13 ∧ (tq_cl 11).1 = mX11_stop.1.cls ∧ Cond.instanceMethod mX11_stop.1 ∈ lw_tbl ∧ Cond.selects mX11_stop.1.cls mX11_stop.1 mX11_stop.1 ∈ lw_tbl := ⟨by decide, rfl, tq_sg4 _ (List.mem_of_getElem? (i := 3) rfl), tq_sg4 _ (List.mem_of_getElem? (i := 4) rfl)⟩
theorem moX11_streak : tq_mok mX11_streak 2 := ⟨tq_sg1 _ (List.mem_of_getElem? (i := 1) rfl), tq_sg6 _ (List.mem_of_getElem? (i := 34) rfl), ⟨by decide, by decide, by decide +kernel⟩, by decide⟩
theorem mvX11_streak : 11 < 13 ∧ (tq_cl 11).1 = mX11_streak.1.cls ∧ Cond.instanceMethod mX11_streak.1 ∈ lw_tbl ∧ Cond.selects mX11_streak.1.cls mX11_streak.1 mX11_streak.1 ∈ lw_tbl := ⟨by decide, rfl, tq_sg6 _ (List.mem_of_getElem? (i := 32) rfl), tq_sg6 _ (List.mem_of_getElem? (i := 33) rfl)⟩
theorem moX11_talk : tq_mok mX11_talk 2 := ⟨tq_sg1 _ (List.mem_of_getElem? (i := 1) rfl), tq_sg5 _ (List.mem_of_getElem? (i := 93) rfl), ⟨by decide, by decide, by decide +kernel⟩, by decide⟩
theorem mvX11_talk : 11 < 13 ∧ (tq_cl 11).1 = mX11_talk.1.cls ∧ Cond.instanceMethod mX11_talk.1 ∈ lw_tbl ∧ Cond.selects mX11_talk.1.cls mX11_talk.1 mX11_talk.1 ∈ lw_tbl := ⟨by decide, rfl, tq_sg5 _ (List.mem_of_getElem? (i := 91) rfl), tq_sg5 _ (List.mem_of_getElem? (i := 92) rfl)⟩
theorem moX11_text : tq_mok mX11_text 2 := ⟨tq_sg1 _ (List.mem_of_getElem? (i := 1) rfl), tq_sg2 _ (List.mem_of_getElem? (i := 167) rfl), ⟨by decide, by decide, by decide +kernel⟩, by decide⟩
theorem mvX11_text : 11 < 13 ∧ (tq_cl 11).1 = mX11_text.1.cls ∧ Cond.instanceMethod mX11_text.1 ∈ lw_tbl ∧ Cond.selects mX11_text.1.cls mX11_text.1 mX11_text.1 ∈ lw_tbl := ⟨by decide, rfl, tq_sg2 _ (List.mem_of_getElem? (i := 165) rfl), tq_sg2 _ (List.mem_of_getElem? (i := 166) rfl)⟩
theorem moX11_thick : tq_mok mX11_thick 1 := ⟨tq_sg1 _ (List.mem_of_getElem? (i := 1) rfl), tq_sg4 _ (List.mem_of_getElem? (i := 110) rfl), ⟨by decide, by decide, by decide +kernel⟩, by decide⟩
theorem mvX11_thick : 11 < 13 ∧ (tq_cl 11).1 = mX11_thick.1.cls ∧ Cond.instanceMethod mX11_thick.1 ∈ lw_tbl ∧ Cond.selects mX11_thick.1.cls mX11_thick.1 mX11_thick.1 ∈ lw_tbl := ⟨by decide, rfl, tq_sg4 _ (List.mem_of_getElem? (i := 108) rfl), tq_sg4 _ (List.mem_of_getElem? (i := 109) rfl)⟩
theorem moX11_within : tq_mok mX11_within 3 := ⟨tq_sg1 _ (List.mem_of_getElem? (i := 1) rfl), tq_sg6 _ (List.mem_of_getElem? (i := 38) rfl), ⟨by decide, by decide, by decide +kernel⟩, by decide⟩
theorem mvX11_within : 11 < 13 ∧ (tq_cl 11).1 = mX11_within.1.cls ∧ Cond.instanceMethod mX11_within.1 ∈ lw_tbl ∧ Cond.selects mX11_within.1.cls mX11_within.1 mX11_within.1 ∈ lw_tbl := ⟨by decide, rfl, tq_sg6 _ (List.mem_of_getElem? (i := 36) rfl), tq_sg6 _ (List.mem_of_getElem? (i := 37) rfl)⟩
theorem moX12_after : tq_mok mX12_after 3 := ⟨tq_sg1 _ (List.mem_of_getElem? (i := 13) rfl), tq_sg7 _ (List.mem_of_getElem? (i := 226) rfl), ⟨by decide, by decide, by decide +kernel⟩, by decide⟩
theorem mvX12_after : 12 < 13 ∧ (tq_cl 12).1 = mX12_after.1.cls ∧ Cond.instanceMethod mX12_after.1 ∈ lw_tbl ∧ Cond.selects mX12_after.1.cls mX12_after.1 mX12_after.1 ∈ lw_tbl := ⟨by decide, rfl, tq_sg7 _ (List.mem_of_getElem? (i := 224) rfl), tq_sg7 _ (List.mem_of_getElem? (i := 225) rfl)⟩
theorem moX12_again : tq_mok mX12_again 1 := ⟨tq_sg1 _ (List.mem_of_getElem? (i := 13) rfl), tq_sg8 _ (List.mem_of_getElem? (i := 203) rfl), ⟨by decide, by decide, by decide +kernel⟩, by decide⟩
theorem mvX12_again : 12 < 13 ∧ (tq_cl 12).1 = mX12_again.1.cls ∧ Cond.instanceMethod mX12_again.1 ∈ lw_tbl ∧ Cond.selects mX12_again.1.cls mX12_again.1 mX12_again.1 ∈ lw_tbl := ⟨by decide, rfl, tq_sg8 _ (List.mem_of_getElem? (i := 201) rfl), tq_sg8 _ (List.mem_of_getElem? (i := 202) rfl)⟩
theorem moX12_border : tq_mok mX12_border 2 := ⟨tq_sg1 _ (List.mem_of_getElem? (i := 13) rfl), tq_sg8 _ (List.mem_of_getElem? (i := 86) rfl), ⟨by decide, by decide, by decide +kernel⟩, by decide⟩
theorem mvX12_border : 12 < 13 ∧ (tq_cl 12).1 = mX12_border.1.cls ∧ Cond.instanceMethod mX12_border.1 ∈ lw_tbl ∧ Cond.selects mX12_border.1.cls mX12_border.1 mX12_border.1 ∈ lw_tbl := ⟨by decide, rfl, tq_sg8 _ (List.mem_of_getElem? (i := 84) rfl), tq_sg8 _ (List.mem_of_getElem? (i := 85) rfl)⟩
theorem moX12_caves : tq_mok mX12_caves 2 := ⟨tq_sg1 _ (List.mem_of_getElem? (i := 13) rfl), tq_sg7 _ (List.mem_of_getElem? (i := 135) rfl), ⟨by decide, by decide, by decide +kernel⟩, by decide⟩
theorem mvX12_caves : 12 < 13 ∧ (tq_cl 12).1 = mX12_caves.1.cls ∧ Cond.instanceMethod mX12_caves.1 ∈ lw_tbl ∧ Cond.selects mX12_caves.1.cls mX12_caves.1 mX12_caves.1 ∈ lw_tbl := ⟨by decide, rfl, tq_sg7 _ (List.mem_of_getElem? (i := 133) rfl), tq_sg7 _ (List.mem_of_getElem? (i := 134) rfl)⟩
theorem moX12_comes : tq_mok mX12_comes 3 := ⟨tq_sg1 _ (List.mem_of_getElem? (i := 13) rfl), tq_sg7 _ (List.mem_of_getElem? (i := 119) rfl), ⟨by decide, by decide, by decide +kernel⟩, by decide⟩
theorem mvX12_comes : 12 < 13 ∧ (tq_cl 12).1 = mX12_comes.1.cls ∧ Cond.instanceMethod mX12_comes.1 ∈ lw_tbl ∧ Cond.selects mX12_comes.1.cls mX12_comes.1 mX12_comes.1 ∈ lw_tbl := ⟨by decide, rfl, tq_sg7 _ (List.mem_of_getElem? (i := 117) rfl), tq_sg7 _ (List.mem_of_getElem? (i := 118) rfl)⟩
theorem moX12_count : tq_mok mX12_count 1 := ⟨tq_sg1 _ (List.mem_of_getElem? (i := 13) rfl), tq_sg8 _ (List.mem_of_getElem? (i := 195) rfl), ⟨by decide, by decide, by decide +kernel⟩, by decide⟩
theorem mvX12_count : 12 < 13 ∧ (tq_cl 12).1 = mX12_count.1.cls ∧ Cond.instanceMethod mX12_count.1 ∈ lw_tbl ∧ Cond.selects mX12_count.1.cls mX12_count.1 mX12_count.1 ∈ lw_tbl := ⟨by decide, rfl, tq_sg8 _ (List.mem_of_getElem? (i := 193) rfl), tq_sg8 _ (List.mem_of_getElem? (i := 194) rfl)⟩
theorem moX12_crest : tq_mok mX12_crest 2 := ⟨tq_sg1 _ (List.mem_of_getElem? (i := 13) rfl), tq_sg7 _ (List.mem_of_getElem? (i := 127) rfl), ⟨by decide, by decide, by decide +kernel⟩, by decide⟩
theorem mvX12_crest : 12 < 13 ∧ (tq_cl 12).1 = mX12_crest.1.cls ∧ Cond.instanceMethod mX12_crest.1 ∈ lw_tbl ∧ Cond.selects mX12_crest.1.cls mX12_crest.1 mX12_crest.1 ∈ lw_tbl := ⟨by decide, rfl, tq_sg7 _ (List.mem_of_getElem? (i := 125) rfl), tq_sg7 _ (List.mem_of_getElem? (i := 126) rfl)⟩
theorem moX12_cuts : tq_mok mX12_cuts 4 := ⟨tq_sg1 _ (List.mem_of_getElem? (i := 13) rfl), tq_sg7 _ (List.mem_of_getElem? (i := 230) rfl), ⟨by decide, by decide, by decide +kernel⟩, by decide⟩
theorem mvX12_cuts : 12 < 13 ∧ (tq_cl 12).1 = mX12_cuts.1.cls ∧ Cond.instanceMethod mX12_cuts.1 ∈ lw_tbl ∧ Cond.selects mX12_cuts.1.cls mX12_cuts.1 mX12_cuts.1 ∈ lw_tbl := ⟨by decide, rfl, tq_sg7 _ (List.mem_of_getElem? (i := 228) rfl), tq_sg7 _ (List.mem_of_getElem? (i := 229) rfl)⟩
theorem moX12_deed : tq_mok mX12_deed 3 := ⟨tq_sg1 _ (List.mem_of_getElem? (i := 13) rfl), tq_sg7 _ (List.mem_of_getElem? (i := 171) rfl), ⟨by decide, by decide, by decide +kernel⟩, by decide⟩
theorem mvX12_deed : 12 < 13 ∧ (tq_cl 12).1 = mX12_deed.1.cls ∧ Cond.instanceMethod mX12_deed.1 ∈ lw_tbl ∧ Cond.selects mX12_deed.1.cls mX12_deed.1 mX12_deed.1 ∈ lw_tbl := ⟨by decide, rfl, tq_sg7 _ (List.mem_of_getElem? (i := 169) rfl), tq_sg7 _ (List.mem_of_getElem? (i := 170) rfl)⟩
theorem moX12_deepest : tq_mok mX12_deepest 1 := ⟨tq_sg1 _ (List.mem_of_getElem? (i := 13) rfl), tq_sg8 _ (List.mem_of_getElem? (i := 166) rfl), ⟨by decide, by decide, by decide +kernel⟩, by decide⟩
theorem mvX12_deepest : 12 < 13 ∧ (tq_cl 12).1 = mX12_deepest.1.cls ∧ Cond.instanceMethod mX12_deepest.1 ∈ lw_tbl ∧ Cond.selects mX12_deepest.1.cls mX12_deepest.1 mX12_deepest.1 ∈ lw_tbl := ⟨by decide, rfl, tq_sg8 _ (List.mem_of_getElem? (i := 164) rfl), tq_sg8 _ (List.mem_of_getElem? (i := 165) rfl)⟩
theorem moX12_drawn : tq_mok mX12_drawn 4 := ⟨tq_sg1 _ (List.mem_of_getElem? (i := 13) rfl), tq_sg8 _ (List.mem_of_getElem? (i := 182) rfl), ⟨by decide, by decide, by decide +kernel⟩, by decide⟩
theorem mvX12_drawn : 12 < 13 ∧ (tq_cl 12).1 = mX12_drawn.1.cls ∧ Cond.instanceMethod mX12_drawn.1 ∈ lw_tbl ∧ Cond.selects mX12_drawn.1.cls mX12_drawn.1 mX12_drawn.1 ∈ lw_tbl := ⟨by decide, rfl, tq_sg8 _ (List.mem_of_getElem? (i := 180) rfl), tq_sg8 _ (List.mem_of_getElem? (i := 181) rfl)⟩
theorem moX12_duel : tq_mok mX12_duel 3 := ⟨tq_sg1 _ (List.mem_of_getElem? (i := 13) rfl), tq_sg8 _ (List.mem_of_getElem? (i := 66) rfl), ⟨by decide, by decide, by decide +kernel⟩, by decide⟩
theorem mvX12_duel : 12 < 13 ∧ (tq_cl 12).1 = mX12_duel.1.cls ∧ Cond.instanceMethod mX12_duel.1 ∈ lw_tbl ∧ Cond.selects mX12_duel.1.cls mX12_duel.1 mX12_duel.1 ∈ lw_tbl := ⟨by decide, rfl, tq_sg8 _ (List.mem_of_getElem? (i := 64) rfl), tq_sg8 _ (List.mem_of_getElem? (i := 65) rfl)⟩
theorem moX12_end : tq_mok mX12_end 1 := ⟨tq_sg1 _ (List.mem_of_getElem? (i := 13) rfl), tq_sg6 _ (List.mem_of_getElem? (i := 198) rfl), ⟨by decide, by decide, by decide +kernel⟩, by decide⟩
theorem mvX12_end : 12 < 13 ∧ (tq_cl 12).1 = mX12_end.1.cls ∧ Cond.instanceMethod mX12_end.1 ∈ lw_tbl ∧ Cond.selects mX12_end.1.cls mX12_end.1 mX12_end.1 ∈ lw_tbl := ⟨by decide, rfl, tq_sg6 _ (List.mem_of_getElem? (i := 196) rfl), tq_sg6 _ (List.mem_of_getElem? (i := 197) rfl)⟩
theorem moX12_fact : tq_mok mX12_fact 3 := ⟨tq_sg1 _ (List.mem_of_getElem? (i := 13) rfl), tq_sg8 _ (List.mem_of_getElem? (i := 119) rfl), ⟨by decide, by decide, by decide +kernel⟩, by decide⟩
theorem mvX12_fact : 12 < 13 ∧ (tq_cl 12).1 = mX12_fact.1.cls ∧ Cond.instanceMethod mX12_fact.1 ∈ lw_tbl ∧ Cond.selects mX12_fact.1.cls mX12_fact.1 mX12_fact.1 ∈ lw_tbl := ⟨by decide, rfl, tq_sg8 _ (List.mem_of_getElem? (i := 117) rfl), tq_sg8 _ (List.mem_of_getElem? (i := 118) rfl)⟩
theorem moX12_fault : tq_mok mX12_fault 1 := ⟨tq_sg1 _ (List.mem_of_getElem? (i := 13) rfl), tq_sg7 _ (List.mem_of_getElem? (i := 69) rfl), ⟨by decide, by decide, by decide +kernel⟩, by decide⟩
theorem mvX12_fault : 12 < 13 ∧ (tq_cl 12).1 = mX12_fault.1.cls ∧ Cond.instanceMethod mX12_fault.1 ∈ lw_tbl ∧ Cond.selects mX12_fault.1.cls mX12_fault.1 mX12_fault.1 ∈ lw_tbl := ⟨by decide, rfl, tq_sg7 _ (List.mem_of_getElem? (i := 67) rfl), tq_sg7 _ (List.mem_of_getElem? (i := 68) rfl)⟩
theorem moX12_feed : tq_mok mX12_feed 5 := ⟨tq_sg1 _ (List.mem_of_getElem? (i := 13) rfl), tq_sg6 _ (List.mem_of_getElem? (i := 194) rfl), ⟨by decide, by decide, by decide +kernel⟩, by decide⟩
theorem mvX12_feed : 12 < 13 ∧ (tq_cl 12).1 = mX12_feed.1.cls ∧ Cond.instanceMethod mX12_feed.1 ∈ lw_tbl ∧ Cond.selects mX12_feed.1.cls mX12_feed.1 mX12_feed.1 ∈ lw_tbl := ⟨by decide, rfl, tq_sg6 _ (List.mem_of_getElem? (i := 192) rfl), tq_sg6 _ (List.mem_of_getElem? (i := 193) rfl)⟩
theorem moX12_fell : tq_mok mX12_fell 2 := ⟨tq_sg1 _ (List.mem_of_getElem? (i := 13) rfl), tq_sg7 _ (List.mem_of_getElem? (i := 238) rfl), ⟨by decide, by decide, by decide +kernel⟩, by decide⟩
theorem mvX12_fell : 12 < 13 ∧ (tq_cl 12).1 = mX12_fell.1.cls ∧ Cond.instanceMethod mX12_fell.1 ∈ lw_tbl ∧ Cond.selects mX12_fell.1.cls mX12_fell.1 mX12_fell.1 ∈ lw_tbl := ⟨by decide, rfl, tq_sg7 _ (List.mem_of_getElem? (i := 236) rfl), tq_sg7 _ (List.mem_of_getElem? (i := 237) rfl)⟩
theorem moX12_fits : tq_mok mX12_fits 2 := ⟨tq_sg1 _ (List.mem_of_getElem? (i := 13) rfl), tq_sg8 _ (List.mem_of_getElem? (i := 127) rfl), ⟨by decide, by decide, by decide +kernel⟩, by decide⟩
theorem mvX12_fits : 12 < 13 ∧ (tq_cl 12).1 = mX12_fits.1.cls ∧ Cond.instanceMethod mX12_fits.1 ∈ lw_tbl ∧ Cond.selects mX12_fits.1.cls mX12_fits.1 mX12_fits.1 ∈ lw_tbl := ⟨by decide, rfl, tq_sg8 _ (List.mem_of_getElem? (i := 125) rfl), tq_sg8 _ (List.mem_of_getElem? (i := 126) rfl)⟩
theorem moX12_hill : tq_mok mX12_hill 2 := ⟨tq_sg1 _ (List.mem_of_getElem? (i := 13) rfl), tq_sg7 _ (List.mem_of_getElem? (i := 155) rfl), ⟨by decide, by decide, by decide +kernel⟩, by decide⟩
theorem mvX12_hill : 12 < 13 ∧ (tq_cl 12).1 = mX12_hill.1.cls ∧ Cond.instanceMethod mX12_hill.1 ∈ lw_tbl ∧ Cond.selects mX12_hill.1.cls mX12_hill.1 mX12_hill.1 ∈ lw_tbl := ⟨by decide, rfl, tq_sg7 _ (List.mem_of_getElem? (i := 153) rfl), tq_sg7 _ (List.mem_of_getElem? (i := 154) rfl)⟩
theorem moX12_image : tq_mok mX12_image 1 := ⟨tq_sg1 _ (List.mem_of_getElem? (i := 13) rfl), tq_sg8 _ (List.mem_of_getElem? (i := 199) rfl), ⟨by decide, by decide, by decide +kernel⟩, by decide⟩
theorem mvX12_image : 12 < 13 ∧ (tq_cl 12).1 = mX12_image.1.cls ∧ Cond.instanceMethod mX12_image.1 ∈ lw_tbl ∧ Cond.selects mX12_image.1.cls mX12_image.1 mX12_image.1 ∈ lw_tbl := ⟨by decide, rfl, tq_sg8 _ (List.mem_of_getElem? (i := 197) rfl), tq_sg8 _ (List.mem_of_getElem? (i := 198) rfl)⟩
theorem moX12_nearer : tq_mok mX12_nearer 2 := ⟨tq_sg1 _ (List.mem_of_getElem? (i := 13) rfl), tq_sg7 _ (List.mem_of_getElem? (i := 109) rfl), ⟨by decide, by decide, by decide +kernel⟩, by decide⟩
theorem mvX12_nearer : 12 < 13 ∧ (tq_cl 12).1 = mX12_nearer.1.cls ∧ Cond.instanceMethod mX12_nearer.1 ∈ lw_tbl ∧ Cond.selects mX12_nearer.1.cls mX12_nearer.1 mX12_nearer.1 ∈ lw_tbl := ⟨by decide, rfl, tq_sg7 _ (List.mem_of_getElem? (i := 107) rfl), tq_sg7 _ (List.mem_of_getElem? (i := 108) rfl)⟩
theorem moX12_path : tq_mok mX12_path 1 := ⟨tq_sg1 _ (List.mem_of_getElem? (i := 13) rfl), tq_sg7 _ (List.mem_of_getElem? (i := 73) rfl), ⟨by decide, by decide, by decide +kernel⟩, by decide⟩
theorem mvX12_path : 12 < 13 ∧ (tq_cl 12).1 = mX12_path.1.cls ∧ Cond.instanceMethod mX12_path.1 ∈ lw_tbl ∧ Cond.selects mX12_path.1.cls mX12_path.1 mX12_path.1 ∈ lw_tbl := ⟨by decide, rfl, tq_sg7 _ (List.mem_of_getElem? (i := 71) rfl), tq_sg7 _ (List.mem_of_getElem? (i := 72) rfl)⟩
theorem moX12_pillars : tq_mok mX12_pillars 2 := ⟨tq_sg1 _ (List.mem_of_getElem? (i := 13) rfl), tq_sg8 _ (List.mem_of_getElem? (i := 6) rfl), ⟨by decide, by decide, by decide +kernel⟩, by decide⟩
theorem mvX12_pillars : 12 < 13 ∧ (tq_cl 12).1 = mX12_pillars.1.cls ∧ Cond.instanceMethod mX12_pillars.1 ∈ lw_tbl ∧ Cond.selects mX12_pillars.1.cls mX12_pillars.1 mX12_pillars.1 ∈ lw_tbl := ⟨by decide, rfl, tq_sg8 _ (List.mem_of_getElem? (i := 4) rfl), tq_sg8 _ (List.mem_of_getElem? (i := 5) rfl)⟩
theorem moX12_plain : tq_mok mX12_plain 2 := ⟨tq_sg1 _ (List.mem_of_getElem? (i := 13) rfl), tq_sg8 _ (List.mem_of_getElem? (i := 170) rfl), ⟨by decide, by decide, by decide +kernel⟩, by decide⟩
theorem mvX12_plain : 12 < 13 ∧ (tq_cl 12).1 = mX12_plain.1.cls ∧ Cond.instanceMethod mX12_plain.1 ∈ lw_tbl ∧ Cond.selects mX12_plain.1.cls mX12_plain.1 mX12_plain.1 ∈ lw_tbl := ⟨by decide, rfl, tq_sg8 _ (List.mem_of_getElem? (i := 168) rfl), tq_sg8 _ (List.mem_of_getElem? (i := 169) rfl)⟩
theorem moX12_propped : tq_mok mX12_propped 3 := ⟨tq_sg1 _ (List.mem_of_getElem? (i := 13) rfl), tq_sg8 _ (List.mem_of_getElem? (i := 94) rfl), ⟨by decide, by decide, by decide +kernel⟩, by decide⟩
theorem mvX12_propped : 12 < 13 ∧ (tq_cl 12).1 = mX12_propped.1.cls ∧ Cond.instanceMethod mX12_propped.1 ∈ lw_tbl ∧ Cond.selects mX12_propped.1.cls mX12_propped.1 mX12_propped.1 ∈ lw_tbl := ⟨by decide, rfl, tq_sg8 _ (List.mem_of_getElem? (i := 92) rfl), tq_sg8 _ (List.mem_of_getElem? (i := 93) rfl)⟩
theorem moX12_quake : tq_mok mX12_quake 3 := ⟨tq_sg1 _ (List.mem_of_getElem? (i := 13) rfl), tq_sg8 _ (List.mem_of_getElem? (i := 106) rfl), ⟨by decide, by decide, by decide +kernel⟩, by decide⟩
theorem mvX12_quake : 12 < 13 ∧ (tq_cl 12).1 = mX12_quake.1.cls ∧ Cond.instanceMethod mX12_quake.1 ∈ lw_tbl ∧ Cond.selects mX12_quake.1.cls mX12_quake.1 mX12_quake.1 ∈ lw_tbl := ⟨by decide, rfl, tq_sg8 _ (List.mem_of_getElem? (i := 104) rfl), tq_sg8 _ (List.mem_of_getElem? (i := 105) rfl)⟩
theorem moX12_race : tq_mok mX12_race 3 := ⟨tq_sg1 _ (List.mem_of_getElem? (i := 13) rfl), tq_sg8 _ (List.mem_of_getElem? (i := 34) rfl), ⟨by decide, by decide, by decide +kernel⟩, by decide⟩
theorem mvX12_race : 12 < 13 ∧ (tq_cl 12).1 = mX12_race.1.cls ∧ Cond.instanceMethod mX12_race.1 ∈ lw_tbl ∧ Cond.selects mX12_race.1.cls mX12_race.1 mX12_race.1 ∈ lw_tbl := ⟨by decide, rfl, tq_sg8 _ (List.mem_of_getElem? (i := 32) rfl), tq_sg8 _ (List.mem_of_getElem? (i := 33) rfl)⟩
theorem moX12_range : tq_mok mX12_range 3 := ⟨tq_sg1 _ (List.mem_of_getElem? (i := 13) rfl), tq_sg8 _ (List.mem_of_getElem? (i := 149) rfl), ⟨by decide, by decide, by decide +kernel⟩, by decide⟩
theorem mvX12_range : 12 < 13 ∧ (tq_cl 12).1 = mX12_range.1.cls ∧ Cond.instanceMethod mX12_range.1 ∈ lw_tbl ∧ Cond.selects mX12_range.1.cls mX12_range.1 mX12_range.1 ∈ lw_tbl := ⟨by decide, rfl, tq_sg8 _ (List.mem_of_getElem? (i := 147) rfl), tq_sg8 _ (List.mem_of_getElem? (i := 148) rfl)⟩
theorem moX12_rich : tq_mok mX12_rich 4 := ⟨tq_sg1 _ (List.mem_of_getElem? (i := 13) rfl), tq_sg8 _ (List.mem_of_getElem? (i := 38) rfl), ⟨by decide, by decide, by decide +kernel⟩, by decide⟩
theorem mvX12_rich : 12 < 13 ∧ (tq_cl 12).1 = mX12_rich.1.cls ∧ Cond.instanceMethod mX12_rich.1 ∈ lw_tbl ∧ Cond.selects mX12_rich.1.cls mX12_rich.1 mX12_rich.1 ∈ lw_tbl := ⟨by decide, rfl, tq_sg8 _ (List.mem_of_getElem? (i := 36) rfl), tq_sg8 _ (List.mem_of_getElem? (i := 37) rfl)⟩
theorem moX12_shored : tq_mok mX12_shored 3 := ⟨tq_sg1 _ (List.mem_of_getElem? (i := 13) rfl), tq_sg8 _ (List.mem_of_getElem? (i := 10) rfl), ⟨by decide, by decide, by decide +kernel⟩, by decide⟩
theorem mvX12_shored : 12 < 13 ∧ (tq_cl 12).1 = mX12_shored.1.cls ∧ Cond.instanceMethod mX12_shored.1 ∈ lw_tbl ∧ Cond.selects mX12_shored.1.cls mX12_shored.1 mX12_shored.1 ∈ lw_tbl := ⟨by decide, rfl, tq_sg8 _ (List.mem_of_getElem? (i := 8) rfl), tq_sg8 _ (List.mem_of_getElem? (i := 9) rfl)⟩
theorem moX12_state : tq_mok mX12_state 4 := ⟨tq_sg1 _ (List.mem_of_getElem? (i := 13) rfl), tq_sg7 _ (List.mem_of_getElem? (i := 218) rfl), ⟨by decide, by decide, by decide +kernel⟩, by decide⟩
theorem mvX12_state : 12 < 13 ∧ (tq_cl 12).1 = mX12_state.1.cls ∧ Cond.instanceMethod mX12_state.1 ∈ lw_tbl ∧ Cond.selects mX12_state.1.cls mX12_state.1 mX12_state.1 ∈ lw_tbl := ⟨by decide, rfl, tq_sg7 _ (List.mem_of_getElem? (i := 216) rfl), tq_sg7 _ (List.mem_of_getElem? (i := 217) rfl)⟩
theorem moX12_steady : tq_mok mX12_steady 3 := ⟨tq_sg1 _ (List.mem_of_getElem? (i := 13) rfl), tq_sg8 _ (List.mem_of_getElem? (i := 26) rfl), ⟨by decide, by decide, by decide +kernel⟩, by decide⟩
theorem mvX12_steady : 12 < 13 ∧ (tq_cl 12).1 = mX12_steady.1.cls ∧ Cond.instanceMethod mX12_steady.1 ∈ lw_tbl ∧ Cond.selects mX12_steady.1.cls mX12_steady.1 mX12_steady.1 ∈ lw_tbl := ⟨by decide, rfl, tq_sg8 _ (List.mem_of_getElem? (i := 24) rfl), tq_sg8 _ (List.mem_of_getElem? (i := 25) rfl)⟩
theorem moX12_stop : tq_mok mX12_stop 2 := ⟨tq_sg1 _ (List.mem_of_getElem? (i := 13) rfl), tq_sg7 _ (List.mem_of_getElem? (i := 179) rfl), ⟨by decide, by decide, by decide +kernel⟩, by decide⟩
theorem mvX12_stop : 12 < 13 ∧ (tq_cl 12).1 = mX12_stop.1.cls ∧ Cond.instanceMethod mX12_stop.1 ∈ lw_tbl ∧ Cond.selects mX12_stop.1.cls mX12_stop.1 mX12_stop.1 ∈ lw_tbl := ⟨by decide, rfl, tq_sg7 _ (List.mem_of_getElem? (i := 177) rfl), tq_sg7 _ (List.mem_of_getElem? (i := 178) rfl)⟩
theorem moX12_streak : tq_mok mX12_streak 2 := ⟨tq_sg1 _ (List.mem_of_getElem? (i := 13) rfl), tq_sg8 _ (List.mem_of_getElem? (i := 22) rfl), ⟨by decide, by decide, by decide +kernel⟩, by decide⟩
theorem mvX12_streak : 12 < 13 ∧ (tq_cl 12).1 = mX12_streak.1.cls ∧ Cond.instanceMethod mX12_streak.1 ∈ lw_tbl ∧ Cond.selects mX12_streak.1.cls mX12_streak.1 mX12_streak.1 ∈ lw_tbl := ⟨by decide, rfl, tq_sg8 _ (List.mem_of_getElem? (i := 20) rfl), tq_sg8 _ (List.mem_of_getElem? (i := 21) rfl)⟩
theorem moX12_talk : tq_mok mX12_talk 2 := ⟨tq_sg1 _ (List.mem_of_getElem? (i := 13) rfl), tq_sg8 _ (List.mem_of_getElem? (i := 157) rfl), ⟨by decide, by decide, by decide +kernel⟩, by decide⟩
theorem mvX12_talk : 12 < 13 ∧ (tq_cl 12).1 = mX12_talk.1.cls ∧ Cond.instanceMethod mX12_talk.1 ∈ lw_tbl ∧ Cond.selects mX12_talk.1.cls mX12_talk.1 mX12_talk.1 ∈ lw_tbl := ⟨by decide, rfl, tq_sg8 _ (List.mem_of_getElem? (i := 155) rfl), tq_sg8 _ (List.mem_of_getElem? (i := 156) rfl)⟩
theorem moX12_text : tq_mok mX12_text 2 := ⟨tq_sg1 _ (List.mem_of_getElem? (i := 13) rfl), tq_sg6 _ (List.mem_of_getElem? (i := 202) rfl), ⟨by decide, by decide, by decide +kernel⟩, by decide⟩
theorem mvX12_text : 12 < 13 ∧ (tq_cl 12).1 = mX12_text.1.cls ∧ Cond.instanceMethod mX12_text.1 ∈ lw_tbl ∧ Cond.selects mX12_text.1.cls mX12_text.1 mX12_text.1 ∈ lw_tbl := ⟨by decide, rfl, tq_sg6 _ (List.mem_of_getElem? (i := 200) rfl), tq_sg6 _ (List.mem_of_getElem? (i := 201) rfl)⟩
theorem moX12_thick : tq_mok mX12_thick 1 := ⟨tq_sg1 _ (List.mem_of_getElem? (i := 13) rfl), tq_sg7 _ (List.mem_of_getElem? (i := 163) rfl), ⟨by decide, by decide, by decide +kernel⟩, by decide⟩
theorem mvX12_thick : 12 < 13 ∧ (tq_cl 12).1 = mX12_thick.1.cls ∧ Cond.instanceMethod mX12_thick.1 ∈ lw_tbl ∧ Cond.selects mX12_thick.1.cls mX12_thick.1 mX12_thick.1 ∈ lw_tbl := ⟨by decide, rfl, tq_sg7 _ (List.mem_of_getElem? (i := 161) rfl), tq_sg7 _ (List.mem_of_getElem? (i := 162) rfl)⟩
theorem moX12_within : tq_mok mX12_within 3 := ⟨tq_sg1 _ (List.mem_of_getElem? (i := 13) rfl), tq_sg8 _ (List.mem_of_getElem? (i := 153) rfl), ⟨by decide, by decide, by decide +kernel⟩, by decide⟩
theorem mvX12_within : 12 < 13 ∧ (tq_cl 12).1 = mX12_within.1.cls ∧ Cond.instanceMethod mX12_within.1 ∈ lw_tbl ∧ Cond.selects mX12_within.1.cls mX12_within.1 mX12_within.1 ∈ lw_tbl := ⟨by decide, rfl, tq_sg8 _ (List.mem_of_getElem? (i := 151) rfl), tq_sg8 _ (List.mem_of_getElem? (i := 152) rfl)⟩
theorem l_L_101 : tq_lok RL 101 mX12_drawn.1 := Or.inl (tq_sg8 _ (List.mem_of_getElem? (i := 179) rfl))
theorem l_L_102 : tq_lok RL 102 mX11_path.1 := Or.inl (tq_sg5 _ (List.mem_of_getElem? (i := 146) rfl))
theorem l_L_105 : tq_lok RL 105 mX12_path.1 := Or.inl (tq_sg7 _ (List.mem_of_getElem? (i := 70) rfl))
theorem l_L_106 : tq_lok RL 106 mX11_caves.1 := Or.inl (tq_sg5 _ (List.mem_of_getElem? (i := 155) rfl))
theorem l_L_109 : tq_lok RL 109 mX12_caves.1 := Or.inl (tq_sg7 _ (List.mem_of_getElem? (i := 132) rfl))
theorem l_L_110 : tq_lok RL 110 mX11_pillars.1 := Or.inl (tq_sg5 _ (List.mem_of_getElem? (i := 176) rfl))
theorem l_L_113 : tq_lok RL 113 mX12_pillars.1 := Or.inl (tq_sg8 _ (List.mem_of_getElem? (i := 3) rfl))
theorem l_L_114 : tq_lok RL 114 mX11_nearer.1 := Or.inl (tq_sg5 _ (List.mem_of_getElem? (i := 184) rfl))
theorem l_L_117 : tq_lok RL 117 mX12_nearer.1 := Or.inl (tq_sg7 _ (List.mem_of_getElem? (i := 106) rfl))
theorem l_L_118 : tq_lok RL 118 mX11_steady.1 := Or.inl (tq_sg5 _ (List.mem_of_getElem? (i := 192) rfl))
theorem l_L_121 : tq_lok RL 121 mX12_steady.1 := Or.inl (tq_sg8 _ (List.mem_of_getElem? (i := 23) rfl))
theorem l_L_122 : tq_lok RL 122 mX11_race.1 := Or.inl (tq_sg5 _ (List.mem_of_getElem? (i := 201) rfl))
theorem l_L_125 : tq_lok RL 125 mX12_race.1 := Or.inl (tq_sg8 _ (List.mem_of_getElem? (i := 31) rfl))
theorem l_L_126 : tq_lok RL 126 mX11_after.1 := Or.inl (tq_sg5 _ (List.mem_of_getElem? (i := 209) rfl))
theorem l_L_129 : tq_lok RL 129 mX12_after.1 := Or.inl (tq_sg7 _ (List.mem_of_getElem? (i := 223) rfl))
theorem l_L_13 : tq_lok RL 13 mX11_feed.1 := Or.inl (tq_sg2 _ (List.mem_of_getElem? (i := 152) rfl))
theorem l_L_130 : tq_lok RL 130 mX11_range.1 := Or.inl (tq_sg5 _ (List.mem_of_getElem? (i := 221) rfl))
theorem l_L_133 : tq_lok RL 133 mX12_range.1 := Or.inl (tq_sg8 _ (List.mem_of_getElem? (i := 146) rfl))
theorem l_L_134 : tq_lok RL 134 mX11_plain.1 := Or.inl (tq_sg5 _ (List.mem_of_getElem? (i := 233) rfl))
theorem l_L_137 : tq_lok RL 137 mX12_plain.1 := Or.inl (tq_sg8 _ (List.mem_of_getElem? (i := 167) rfl))
theorem l_L_138 : tq_lok RL 138 mX11_comes.1 := Or.inl (tq_sg6 _ (List.mem_of_getElem? (i := 3) rfl))
theorem l_L_141 : tq_lok RL 141 mX12_comes.1 := Or.inl (tq_sg7 _ (List.mem_of_getElem? (i := 116) rfl))
theorem l_L_142 : tq_lok RL 142 mX11_crest.1 := Or.inl (tq_sg6 _ (List.mem_of_getElem? (i := 8) rfl))
theorem l_L_145 : tq_lok RL 145 mX12_crest.1 := Or.inl (tq_sg7 _ (List.mem_of_getElem? (i := 124) rfl))
theorem l_L_146 : tq_lok RL 146 mX11_shored.1 := Or.inl (tq_sg6 _ (List.mem_of_getElem? (i := 17) rfl))
theorem l_L_149 : tq_lok RL 149 mX12_shored.1 := Or.inl (tq_sg8 _ (List.mem_of_getElem? (i := 7) rfl))
theorem l_L_150 : tq_lok RL 150 mX11_streak.1 := Or.inl (tq_sg6 _ (List.mem_of_getElem? (i := 31) rfl))
theorem l_L_153 : tq_lok RL 153 mX12_streak.1 := Or.inl (tq_sg8 _ (List.mem_of_getElem? (i := 19) rfl))
theorem l_L_154 : tq_lok RL 154 mX11_within.1 := Or.inl (tq_sg6 _ (List.mem_of_getElem? (i := 35) rfl))
theorem l_L_157 : tq_lok RL 157 mX12_within.1 := Or.inl (tq_sg8 _ (List.mem_of_getElem? (i := 150) rfl))
theorem l_L_158 : tq_lok RL 158 mX11_deepest.1 := Or.inl (tq_sg6 _ (List.mem_of_getElem? (i := 43) rfl))
theorem l_L_161 : tq_lok RL 161 mX12_deepest.1 := Or.inl (tq_sg8 _ (List.mem_of_getElem? (i := 163) rfl))
theorem l_L_162 : tq_lok RL 162 mX11_count.1 := Or.inl (tq_sg6 _ (List.mem_of_getElem? (i := 50) rfl))
theorem l_L_165 : tq_lok RL 165 mX12_count.1 := Or.inl (tq_sg8 _ (List.mem_of_getElem? (i := 192) rfl))
theorem l_L_166 : tq_lok RL 166 mX11_image.1 := Or.inl (tq_sg6 _ (List.mem_of_getElem? (i := 54) rfl))
theorem l_L_17 : tq_lok RL 17 mX12_feed.1 := Or.inl (tq_sg6 _ (List.mem_of_getElem? (i := 191) rfl))
theorem l_L_170 : tq_lok RL 170 mX12_image.1 := Or.inl (tq_sg8 _ (List.mem_of_getElem? (i := 196) rfl))
theorem l_L_171 : tq_lok RL 171 mX11_again.1 := Or.inl (tq_sg6 _ (List.mem_of_getElem? (i := 63) rfl))
theorem l_L_174 : tq_lok RL 174 mX12_again.1 := Or.inl (tq_sg8 _ (List.mem_of_getElem? (i := 200) rfl))
theorem l_L_18 : tq_lok RL 18 mX11_end.1 := Or.inl (tq_sg2 _ (List.mem_of_getElem? (i := 160) rfl))
theorem l_L_22 : tq_lok RL 22 mX12_end.1 := Or.inl (tq_sg6 _ (List.mem_of_getElem? (i := 195) rfl))
theorem l_L_23 : tq_lok RL 23 mX11_text.1 := Or.inl (tq_sg2 _ (List.mem_of_getElem? (i := 164) rfl))
theorem l_L_27 : tq_lok RL 27 mX12_text.1 := Or.inl (tq_sg6 _ (List.mem_of_getElem? (i := 199) rfl))
theorem l_L_28 : tq_lok RL 28 mX11_fault.1 := Or.inl (tq_sg3 _ (List.mem_of_getElem? (i := 177) rfl))
theorem l_L_31 : tq_lok RL 31 mX12_fault.1 := Or.inl (tq_sg7 _ (List.mem_of_getElem? (i := 66) rfl))
theorem l_L_32 : tq_lok RL 32 mX11_hill.1 := Or.inl (tq_sg3 _ (List.mem_of_getElem? (i := 181) rfl))
theorem l_L_35 : tq_lok RL 35 mX12_hill.1 := Or.inl (tq_sg7 _ (List.mem_of_getElem? (i := 152) rfl))
theorem l_L_36 : tq_lok RL 36 mX11_deed.1 := Or.inl (tq_sg3 _ (List.mem_of_getElem? (i := 222) rfl))
theorem l_L_40 : tq_lok RL 40 mX12_deed.1 := Or.inl (tq_sg7 _ (List.mem_of_getElem? (i := 168) rfl))
theorem l_L_41 : tq_lok RL 41 mX11_stop.1 := Or.inl (tq_sg4 _ (List.mem_of_getElem? (i := 2) rfl))
theorem l_L_44 : tq_lok RL 44 mX12_stop.1 := Or.inl (tq_sg7 _ (List.mem_of_getElem? (i := 176) rfl))
theorem l_L_45 : tq_lok RL 45 mX11_state.1 := Or.inl (tq_sg4 _ (List.mem_of_getElem? (i := 89) rfl))
theorem l_L_49 : tq_lok RL 49 mX12_state.1 := Or.inl (tq_sg7 _ (List.mem_of_getElem? (i := 215) rfl))
theorem l_L_50 : tq_lok RL 50 mX11_thick.1 := Or.inl (tq_sg4 _ (List.mem_of_getElem? (i := 107) rfl))
theorem l_L_53 : tq_lok RL 53 mX12_thick.1 := Or.inl (tq_sg7 _ (List.mem_of_getElem? (i := 160) rfl))
theorem l_L_54 : tq_lok RL 54 mX11_cuts.1 := Or.inl (tq_sg4 _ (List.mem_of_getElem? (i := 113) rfl))
theorem l_L_58 : tq_lok RL 58 mX12_cuts.1 := Or.inl (tq_sg7 _ (List.mem_of_getElem? (i := 227) rfl))
theorem l_L_59 : tq_lok RL 59 mX11_fell.1 := Or.inl (tq_sg4 _ (List.mem_of_getElem? (i := 139) rfl))
theorem l_L_62 : tq_lok RL 62 mX12_fell.1 := Or.inl (tq_sg7 _ (List.mem_of_getElem? (i := 235) rfl))
theorem l_L_63 : tq_lok RL 63 mX11_rich.1 := Or.inl (tq_sg4 _ (List.mem_of_getElem? (i := 154) rfl))
theorem l_L_66 : tq_lok RL 66 mX12_rich.1 := Or.inl (tq_sg8 _ (List.mem_of_getElem? (i := 35) rfl))
theorem l_L_67 : tq_lok RL 67 mX11_duel.1 := Or.inl (tq_sg4 _ (List.mem_of_getElem? (i := 184) rfl))
theorem l_L_71 : tq_lok RL 71 mX12_duel.1 := Or.inl (tq_sg8 _ (List.mem_of_getElem? (i := 63) rfl))
theorem l_L_72 : tq_lok RL 72 mX11_border.1 := Or.inl (tq_sg4 _ (List.mem_of_getElem? (i := 199) rfl))
theorem l_L_76 : tq_lok RL 76 mX12_border.1 := Or.inl (tq_sg8 _ (List.mem_of_getElem? (i := 83) rfl))
theorem l_L_77 : tq_lok RL 77 mX11_propped.1 := Or.inl (tq_sg4 _ (List.mem_of_getElem? (i := 220) rfl))
theorem l_L_80 : tq_lok RL 80 mX12_propped.1 := Or.inl (tq_sg8 _ (List.mem_of_getElem? (i := 91) rfl))
theorem l_L_81 : tq_lok RL 81 mX11_quake.1 := Or.inl (tq_sg5 _ (List.mem_of_getElem? (i := 3) rfl))
theorem l_L_85 : tq_lok RL 85 mX12_quake.1 := Or.inl (tq_sg8 _ (List.mem_of_getElem? (i := 103) rfl))
theorem l_L_86 : tq_lok RL 86 mX11_fact.1 := Or.inl (tq_sg5 _ (List.mem_of_getElem? (i := 20) rfl))
theorem l_L_89 : tq_lok RL 89 mX12_fact.1 := Or.inl (tq_sg8 _ (List.mem_of_getElem? (i := 116) rfl))
theorem l_L_90 : tq_lok RL 90 mX11_fits.1 := Or.inl (tq_sg5 _ (List.mem_of_getElem? (i := 36) rfl))
theorem l_L_93 : tq_lok RL 93 mX12_fits.1 := Or.inl (tq_sg8 _ (List.mem_of_getElem? (i := 124) rfl))
theorem l_L_94 : tq_lok RL 94 mX11_talk.1 := Or.inl (tq_sg5 _ (List.mem_of_getElem? (i := 90) rfl))
theorem l_L_97 : tq_lok RL 97 mX12_talk.1 := Or.inl (tq_sg8 _ (List.mem_of_getElem? (i := 154) rfl))
theorem l_L_98 : tq_lok RL 98 mX11_drawn.1 := Or.inl (tq_sg5 _ (List.mem_of_getElem? (i := 127) rfl))
theorem rL_law_18 : tq_D cL_law 18 (.iload_n 3) 1 19 := ⟨by decide +kernel, rfl⟩
theorem rL_law_19 : tq_D cL_law 19 (.aload_n 0) 1 20 := ⟨by decide +kernel, rfl⟩
theorem rL_law_20 : tq_D cL_law 20 (.arraylength) 1 21 := ⟨by decide +kernel, rfl⟩
theorem rL_law_21 : tq_D cL_law 21 (.bipush 6) 2 23 := ⟨by decide +kernel, rfl⟩
theorem rL_law_23 : tq_D cL_law 23 (.isub) 1 24 := ⟨by decide +kernel, rfl⟩
theorem rL_law_24 : tq_J cL_law 24 (.if_icmp .gt) 1723 27 := ⟨1699, by decide +kernel, by decide, rfl⟩
theorem rL_law_27 : tq_D cL_law 27 (.aload_n 0) 1 28 := ⟨by decide +kernel, rfl⟩
theorem rL_law_28 : tq_D cL_law 28 (.iload_n 3) 1 29 := ⟨by decide +kernel, rfl⟩
theorem rL_law_29 : tq_D cL_law 29 (.iaload) 1 30 := ⟨by decide +kernel, rfl⟩
theorem rL_law_30 : tq_D cL_law 30 (.bipush 63) 2 32 := ⟨by decide +kernel, rfl⟩
theorem rL_law_32 : tq_D cL_law 32 (.iand) 1 33 := ⟨by decide +kernel, rfl⟩
theorem rL_law_33 : decode cL_law 33 = .ok (.tableswitch 1684 0 37 #[167, 230, 253, 286, 309, 342, 385, 418, 471, 494, 563, 596, 649, 708, 757, 800, 860, 903, 936, 969, 1022, 1045, 1078, 1111, 1144, 1203, 1246, 1289, 1348, 1381, 1424, 1473, 1516, 1549, 1592, 1615, 1638, 1661], 167) := by decide +kernel
theorem rL_law_200 : tq_D cL_law 200 (.aload_n 1) 1 201 := ⟨by decide +kernel, rfl⟩
theorem rL_law_201 : tq_D cL_law 201 (.aload_n 0) 1 202 := ⟨by decide +kernel, rfl⟩
theorem rL_law_202 : tq_D cL_law 202 (.iload_n 3) 1 203 := ⟨by decide +kernel, rfl⟩
theorem rL_law_203 : tq_D cL_law 203 (.iconst 1) 1 204 := ⟨by decide +kernel, rfl⟩
theorem rL_law_204 : tq_D cL_law 204 (.iadd) 1 205 := ⟨by decide +kernel, rfl⟩
theorem rL_law_205 : tq_D cL_law 205 (.iaload) 1 206 := ⟨by decide +kernel, rfl⟩
theorem rL_law_206 : tq_D cL_law 206 (.aload_n 0) 1 207 := ⟨by decide +kernel, rfl⟩
theorem rL_law_207 : tq_D cL_law 207 (.iload_n 3) 1 208 := ⟨by decide +kernel, rfl⟩
theorem rL_law_208 : tq_D cL_law 208 (.iconst 2) 1 209 := ⟨by decide +kernel, rfl⟩
theorem rL_law_209 : tq_D cL_law 209 (.iadd) 1 210 := ⟨by decide +kernel, rfl⟩
theorem rL_law_210 : tq_D cL_law 210 (.iaload) 1 211 := ⟨by decide +kernel, rfl⟩
theorem rL_law_211 : tq_D cL_law 211 (.aload_n 0) 1 212 := ⟨by decide +kernel, rfl⟩
theorem rL_law_212 : tq_D cL_law 212 (.iload_n 3) 1 213 := ⟨by decide +kernel, rfl⟩
theorem rL_law_213 : tq_D cL_law 213 (.iconst 3) 1 214 := ⟨by decide +kernel, rfl⟩
theorem rL_law_214 : tq_D cL_law 214 (.iadd) 1 215 := ⟨by decide +kernel, rfl⟩
theorem rL_law_215 : tq_D cL_law 215 (.iaload) 1 216 := ⟨by decide +kernel, rfl⟩
theorem rL_law_216 : tq_D cL_law 216 (.aload_n 0) 1 217 := ⟨by decide +kernel, rfl⟩
theorem rL_law_217 : tq_D cL_law 217 (.iload_n 3) 1 218 := ⟨by decide +kernel, rfl⟩
theorem rL_law_218 : tq_D cL_law 218 (.iconst 4) 1 219 := ⟨by decide +kernel, rfl⟩
theorem rL_law_219 : tq_D cL_law 219 (.iadd) 1 220 := ⟨by decide +kernel, rfl⟩
theorem rL_law_220 : tq_D cL_law 220 (.iaload) 1 221 := ⟨by decide +kernel, rfl⟩
theorem rL_law_221 : tq_D cL_law 221 (.aload_n 0) 1 222 := ⟨by decide +kernel, rfl⟩
theorem rL_law_222 : tq_D cL_law 222 (.iload_n 3) 1 223 := ⟨by decide +kernel, rfl⟩
theorem rL_law_223 : tq_D cL_law 223 (.iconst 5) 1 224 := ⟨by decide +kernel, rfl⟩
theorem rL_law_224 : tq_D cL_law 224 (.iadd) 1 225 := ⟨by decide +kernel, rfl⟩
theorem rL_law_225 : tq_D cL_law 225 (.iaload) 1 226 := ⟨by decide +kernel, rfl⟩
theorem rL_law_226 : tq_D cL_law 226 (.invokevirtual 13) 3 229 := ⟨by decide +kernel, rfl⟩
theorem rL_law_229 : tq_D cL_law 229 (.aload_n 2) 1 230 := ⟨by decide +kernel, rfl⟩
theorem rL_law_230 : tq_D cL_law 230 (.aload_n 0) 1 231 := ⟨by decide +kernel, rfl⟩
theorem rL_law_231 : tq_D cL_law 231 (.iload_n 3) 1 232 := ⟨by decide +kernel, rfl⟩
theorem rL_law_232 : tq_D cL_law 232 (.iconst 1) 1 233 := ⟨by decide +kernel, rfl⟩
theorem rL_law_233 : tq_D cL_law 233 (.iadd) 1 234 := ⟨by decide +kernel, rfl⟩
theorem rL_law_234 : tq_D cL_law 234 (.iaload) 1 235 := ⟨by decide +kernel, rfl⟩
theorem rL_law_235 : tq_D cL_law 235 (.aload_n 0) 1 236 := ⟨by decide +kernel, rfl⟩
theorem rL_law_236 : tq_D cL_law 236 (.iload_n 3) 1 237 := ⟨by decide +kernel, rfl⟩
theorem rL_law_237 : tq_D cL_law 237 (.iconst 2) 1 238 := ⟨by decide +kernel, rfl⟩
theorem rL_law_238 : tq_D cL_law 238 (.iadd) 1 239 := ⟨by decide +kernel, rfl⟩
theorem rL_law_239 : tq_D cL_law 239 (.iaload) 1 240 := ⟨by decide +kernel, rfl⟩
theorem rL_law_240 : tq_D cL_law 240 (.aload_n 0) 1 241 := ⟨by decide +kernel, rfl⟩
theorem rL_law_241 : tq_D cL_law 241 (.iload_n 3) 1 242 := ⟨by decide +kernel, rfl⟩
theorem rL_law_242 : tq_D cL_law 242 (.iconst 3) 1 243 := ⟨by decide +kernel, rfl⟩
theorem rL_law_243 : tq_D cL_law 243 (.iadd) 1 244 := ⟨by decide +kernel, rfl⟩
theorem rL_law_244 : tq_D cL_law 244 (.iaload) 1 245 := ⟨by decide +kernel, rfl⟩
theorem rL_law_245 : tq_D cL_law 245 (.aload_n 0) 1 246 := ⟨by decide +kernel, rfl⟩
theorem rL_law_246 : tq_D cL_law 246 (.iload_n 3) 1 247 := ⟨by decide +kernel, rfl⟩
theorem rL_law_247 : tq_D cL_law 247 (.iconst 4) 1 248 := ⟨by decide +kernel, rfl⟩
theorem rL_law_248 : tq_D cL_law 248 (.iadd) 1 249 := ⟨by decide +kernel, rfl⟩
theorem rL_law_249 : tq_D cL_law 249 (.iaload) 1 250 := ⟨by decide +kernel, rfl⟩
theorem rL_law_250 : tq_D cL_law 250 (.aload_n 0) 1 251 := ⟨by decide +kernel, rfl⟩
theorem rL_law_251 : tq_D cL_law 251 (.iload_n 3) 1 252 := ⟨by decide +kernel, rfl⟩
theorem rL_law_252 : tq_D cL_law 252 (.iconst 5) 1 253 := ⟨by decide +kernel, rfl⟩
theorem rL_law_253 : tq_D cL_law 253 (.iadd) 1 254 := ⟨by decide +kernel, rfl⟩
theorem rL_law_254 : tq_D cL_law 254 (.iaload) 1 255 := ⟨by decide +kernel, rfl⟩
theorem rL_law_255 : tq_D cL_law 255 (.invokevirtual 17) 3 258 := ⟨by decide +kernel, rfl⟩
theorem rL_law_258 : tq_J cL_law 258 (.if_icmp .eq) 1717 261 := ⟨1459, by decide +kernel, by decide, rfl⟩
theorem rL_law_261 : tq_D cL_law 261 (.iconst 0) 1 262 := ⟨by decide +kernel, rfl⟩
theorem rL_law_262 : decode cL_law 262 = .ok (.ireturn, 1) := by decide +kernel
theorem rL_law_263 : tq_D cL_law 263 (.aload_n 1) 1 264 := ⟨by decide +kernel, rfl⟩
theorem rL_law_264 : tq_D cL_law 264 (.aload_n 0) 1 265 := ⟨by decide +kernel, rfl⟩
theorem rL_law_265 : tq_D cL_law 265 (.iload_n 3) 1 266 := ⟨by decide +kernel, rfl⟩
theorem rL_law_266 : tq_D cL_law 266 (.iconst 1) 1 267 := ⟨by decide +kernel, rfl⟩
theorem rL_law_267 : tq_D cL_law 267 (.iadd) 1 268 := ⟨by decide +kernel, rfl⟩
theorem rL_law_268 : tq_D cL_law 268 (.iaload) 1 269 := ⟨by decide +kernel, rfl⟩
theorem rL_law_269 : tq_D cL_law 269 (.invokevirtual 18) 3 272 := ⟨by decide +kernel, rfl⟩
theorem rL_law_272 : tq_D cL_law 272 (.aload_n 2) 1 273 := ⟨by decide +kernel, rfl⟩
theorem rL_law_273 : tq_D cL_law 273 (.aload_n 0) 1 274 := ⟨by decide +kernel, rfl⟩
theorem rL_law_274 : tq_D cL_law 274 (.iload_n 3) 1 275 := ⟨by decide +kernel, rfl⟩
theorem rL_law_275 : tq_D cL_law 275 (.iconst 1) 1 276 := ⟨by decide +kernel, rfl⟩
theorem rL_law_276 : tq_D cL_law 276 (.iadd) 1 277 := ⟨by decide +kernel, rfl⟩
theorem rL_law_277 : tq_D cL_law 277 (.iaload) 1 278 := ⟨by decide +kernel, rfl⟩
theorem rL_law_278 : tq_D cL_law 278 (.invokevirtual 22) 3 281 := ⟨by decide +kernel, rfl⟩
theorem rL_law_281 : tq_J cL_law 281 (.if_icmp .eq) 1717 284 := ⟨1436, by decide +kernel, by decide, rfl⟩
theorem rL_law_284 : tq_D cL_law 284 (.iconst 0) 1 285 := ⟨by decide +kernel, rfl⟩
theorem rL_law_285 : decode cL_law 285 = .ok (.ireturn, 1) := by decide +kernel
theorem rL_law_286 : tq_D cL_law 286 (.aload_n 1) 1 287 := ⟨by decide +kernel, rfl⟩
theorem rL_law_287 : tq_D cL_law 287 (.aload_n 0) 1 288 := ⟨by decide +kernel, rfl⟩
theorem rL_law_288 : tq_D cL_law 288 (.iload_n 3) 1 289 := ⟨by decide +kernel, rfl⟩
theorem rL_law_289 : tq_D cL_law 289 (.iconst 1) 1 290 := ⟨by decide +kernel, rfl⟩
theorem rL_law_290 : tq_D cL_law 290 (.iadd) 1 291 := ⟨by decide +kernel, rfl⟩
theorem rL_law_291 : tq_D cL_law 291 (.iaload) 1 292 := ⟨by decide +kernel, rfl⟩
theorem rL_law_292 : tq_D cL_law 292 (.aload_n 0) 1 293 := ⟨by decide +kernel, rfl⟩
theorem rL_law_293 : tq_D cL_law 293 (.iload_n 3) 1 294 := ⟨by decide +kernel, rfl⟩
theorem rL_law_294 : tq_D cL_law 294 (.iconst 2) 1 295 := ⟨by decide +kernel, rfl⟩
theorem rL_law_295 : tq_D cL_law 295 (.iadd) 1 296 := ⟨by decide +kernel, rfl⟩
theorem rL_law_296 : tq_D cL_law 296 (.iaload) 1 297 := ⟨by decide +kernel, rfl⟩
theorem rL_law_297 : tq_D cL_law 297 (.invokevirtual 23) 3 300 := ⟨by decide +kernel, rfl⟩
theorem rL_law_300 : tq_D cL_law 300 (.aload_n 2) 1 301 := ⟨by decide +kernel, rfl⟩
theorem rL_law_301 : tq_D cL_law 301 (.aload_n 0) 1 302 := ⟨by decide +kernel, rfl⟩
theorem rL_law_302 : tq_D cL_law 302 (.iload_n 3) 1 303 := ⟨by decide +kernel, rfl⟩
theorem rL_law_303 : tq_D cL_law 303 (.iconst 1) 1 304 := ⟨by decide +kernel, rfl⟩
theorem rL_law_304 : tq_D cL_law 304 (.iadd) 1 305 := ⟨by decide +kernel, rfl⟩
theorem rL_law_305 : tq_D cL_law 305 (.iaload) 1 306 := ⟨by decide +kernel, rfl⟩
theorem rL_law_306 : tq_D cL_law 306 (.aload_n 0) 1 307 := ⟨by decide +kernel, rfl⟩
theorem rL_law_307 : tq_D cL_law 307 (.iload_n 3) 1 308 := ⟨by decide +kernel, rfl⟩
theorem rL_law_308 : tq_D cL_law 308 (.iconst 2) 1 309 := ⟨by decide +kernel, rfl⟩
theorem rL_law_309 : tq_D cL_law 309 (.iadd) 1 310 := ⟨by decide +kernel, rfl⟩
theorem rL_law_310 : tq_D cL_law 310 (.iaload) 1 311 := ⟨by decide +kernel, rfl⟩
theorem rL_law_311 : tq_D cL_law 311 (.invokevirtual 27) 3 314 := ⟨by decide +kernel, rfl⟩
theorem rL_law_314 : tq_J cL_law 314 (.if_icmp .eq) 1717 317 := ⟨1403, by decide +kernel, by decide, rfl⟩
theorem rL_law_317 : tq_D cL_law 317 (.iconst 0) 1 318 := ⟨by decide +kernel, rfl⟩
theorem rL_law_318 : decode cL_law 318 = .ok (.ireturn, 1) := by decide +kernel
theorem rL_law_319 : tq_D cL_law 319 (.aload_n 1) 1 320 := ⟨by decide +kernel, rfl⟩
theorem rL_law_320 : tq_D cL_law 320 (.aload_n 0) 1 321 := ⟨by decide +kernel, rfl⟩
theorem rL_law_321 : tq_D cL_law 321 (.iload_n 3) 1 322 := ⟨by decide +kernel, rfl⟩
theorem rL_law_322 : tq_D cL_law 322 (.iconst 1) 1 323 := ⟨by decide +kernel, rfl⟩
theorem rL_law_323 : tq_D cL_law 323 (.iadd) 1 324 := ⟨by decide +kernel, rfl⟩
theorem rL_law_324 : tq_D cL_law 324 (.iaload) 1 325 := ⟨by decide +kernel, rfl⟩
theorem rL_law_325 : tq_D cL_law 325 (.invokevirtual 28) 3 328 := ⟨by decide +kernel, rfl⟩
theorem rL_law_328 : tq_D cL_law 328 (.aload_n 2) 1 329 := ⟨by decide +kernel, rfl⟩
theorem rL_law_329 : tq_D cL_law 329 (.aload_n 0) 1 330 := ⟨by decide +kernel, rfl⟩
theorem rL_law_330 : tq_D cL_law 330 (.iload_n 3) 1 331 := ⟨by decide +kernel, rfl⟩
theorem rL_law_331 : tq_D cL_law 331 (.iconst 1) 1 332 := ⟨by decide +kernel, rfl⟩
theorem rL_law_332 : tq_D cL_law 332 (.iadd) 1 333 := ⟨by decide +kernel, rfl⟩
theorem rL_law_333 : tq_D cL_law 333 (.iaload) 1 334 := ⟨by decide +kernel, rfl⟩
theorem rL_law_334 : tq_D cL_law 334 (.invokevirtual 31) 3 337 := ⟨by decide +kernel, rfl⟩
theorem rL_law_337 : tq_J cL_law 337 (.if_icmp .eq) 1717 340 := ⟨1380, by decide +kernel, by decide, rfl⟩
theorem rL_law_340 : tq_D cL_law 340 (.iconst 0) 1 341 := ⟨by decide +kernel, rfl⟩
theorem rL_law_341 : decode cL_law 341 = .ok (.ireturn, 1) := by decide +kernel
theorem rL_law_342 : tq_D cL_law 342 (.aload_n 1) 1 343 := ⟨by decide +kernel, rfl⟩
theorem rL_law_343 : tq_D cL_law 343 (.aload_n 0) 1 344 := ⟨by decide +kernel, rfl⟩
theorem rL_law_344 : tq_D cL_law 344 (.iload_n 3) 1 345 := ⟨by decide +kernel, rfl⟩
theorem rL_law_345 : tq_D cL_law 345 (.iconst 1) 1 346 := ⟨by decide +kernel, rfl⟩
theorem rL_law_346 : tq_D cL_law 346 (.iadd) 1 347 := ⟨by decide +kernel, rfl⟩
theorem rL_law_347 : tq_D cL_law 347 (.iaload) 1 348 := ⟨by decide +kernel, rfl⟩
theorem rL_law_348 : tq_D cL_law 348 (.aload_n 0) 1 349 := ⟨by decide +kernel, rfl⟩
theorem rL_law_349 : tq_D cL_law 349 (.iload_n 3) 1 350 := ⟨by decide +kernel, rfl⟩
theorem rL_law_350 : tq_D cL_law 350 (.iconst 2) 1 351 := ⟨by decide +kernel, rfl⟩
theorem rL_law_351 : tq_D cL_law 351 (.iadd) 1 352 := ⟨by decide +kernel, rfl⟩
theorem rL_law_352 : tq_D cL_law 352 (.iaload) 1 353 := ⟨by decide +kernel, rfl⟩
theorem rL_law_353 : tq_D cL_law 353 (.invokevirtual 32) 3 356 := ⟨by decide +kernel, rfl⟩
theorem rL_law_356 : tq_D cL_law 356 (.aload_n 2) 1 357 := ⟨by decide +kernel, rfl⟩
theorem rL_law_357 : tq_D cL_law 357 (.aload_n 0) 1 358 := ⟨by decide +kernel, rfl⟩
theorem rL_law_358 : tq_D cL_law 358 (.iload_n 3) 1 359 := ⟨by decide +kernel, rfl⟩
theorem rL_law_359 : tq_D cL_law 359 (.iconst 1) 1 360 := ⟨by decide +kernel, rfl⟩
theorem rL_law_360 : tq_D cL_law 360 (.iadd) 1 361 := ⟨by decide +kernel, rfl⟩
theorem rL_law_361 : tq_D cL_law 361 (.iaload) 1 362 := ⟨by decide +kernel, rfl⟩
theorem rL_law_362 : tq_D cL_law 362 (.aload_n 0) 1 363 := ⟨by decide +kernel, rfl⟩
theorem rL_law_363 : tq_D cL_law 363 (.iload_n 3) 1 364 := ⟨by decide +kernel, rfl⟩
theorem rL_law_364 : tq_D cL_law 364 (.iconst 2) 1 365 := ⟨by decide +kernel, rfl⟩
theorem rL_law_365 : tq_D cL_law 365 (.iadd) 1 366 := ⟨by decide +kernel, rfl⟩
theorem rL_law_366 : tq_D cL_law 366 (.iaload) 1 367 := ⟨by decide +kernel, rfl⟩
theorem rL_law_367 : tq_D cL_law 367 (.invokevirtual 35) 3 370 := ⟨by decide +kernel, rfl⟩
theorem rL_law_370 : tq_J cL_law 370 (.if_icmp .eq) 1717 373 := ⟨1347, by decide +kernel, by decide, rfl⟩
theorem rL_law_373 : tq_D cL_law 373 (.iconst 0) 1 374 := ⟨by decide +kernel, rfl⟩
theorem rL_law_374 : decode cL_law 374 = .ok (.ireturn, 1) := by decide +kernel
theorem rL_law_375 : tq_D cL_law 375 (.aload_n 1) 1 376 := ⟨by decide +kernel, rfl⟩
theorem rL_law_376 : tq_D cL_law 376 (.aload_n 0) 1 377 := ⟨by decide +kernel, rfl⟩
theorem rL_law_377 : tq_D cL_law 377 (.iload_n 3) 1 378 := ⟨by decide +kernel, rfl⟩
theorem rL_law_378 : tq_D cL_law 378 (.iconst 1) 1 379 := ⟨by decide +kernel, rfl⟩
theorem rL_law_379 : tq_D cL_law 379 (.iadd) 1 380 := ⟨by decide +kernel, rfl⟩
theorem rL_law_380 : tq_D cL_law 380 (.iaload) 1 381 := ⟨by decide +kernel, rfl⟩
theorem rL_law_381 : tq_D cL_law 381 (.aload_n 0) 1 382 := ⟨by decide +kernel, rfl⟩
theorem rL_law_382 : tq_D cL_law 382 (.iload_n 3) 1 383 := ⟨by decide +kernel, rfl⟩
theorem rL_law_383 : tq_D cL_law 383 (.iconst 2) 1 384 := ⟨by decide +kernel, rfl⟩
theorem rL_law_384 : tq_D cL_law 384 (.iadd) 1 385 := ⟨by decide +kernel, rfl⟩
theorem rL_law_385 : tq_D cL_law 385 (.iaload) 1 386 := ⟨by decide +kernel, rfl⟩
theorem rL_law_386 : tq_D cL_law 386 (.aload_n 0) 1 387 := ⟨by decide +kernel, rfl⟩
theorem rL_law_387 : tq_D cL_law 387 (.iload_n 3) 1 388 := ⟨by decide +kernel, rfl⟩
theorem rL_law_388 : tq_D cL_law 388 (.iconst 3) 1 389 := ⟨by decide +kernel, rfl⟩
theorem rL_law_389 : tq_D cL_law 389 (.iadd) 1 390 := ⟨by decide +kernel, rfl⟩
theorem rL_law_390 : tq_D cL_law 390 (.iaload) 1 391 := ⟨by decide +kernel, rfl⟩
theorem rL_law_391 : tq_D cL_law 391 (.invokevirtual 36) 3 394 := ⟨by decide +kernel, rfl⟩
theorem rL_law_394 : tq_D cL_law 394 (.aload_n 2) 1 395 := ⟨by decide +kernel, rfl⟩
theorem rL_law_395 : tq_D cL_law 395 (.aload_n 0) 1 396 := ⟨by decide +kernel, rfl⟩
theorem rL_law_396 : tq_D cL_law 396 (.iload_n 3) 1 397 := ⟨by decide +kernel, rfl⟩
theorem rL_law_397 : tq_D cL_law 397 (.iconst 1) 1 398 := ⟨by decide +kernel, rfl⟩
theorem rL_law_398 : tq_D cL_law 398 (.iadd) 1 399 := ⟨by decide +kernel, rfl⟩
theorem rL_law_399 : tq_D cL_law 399 (.iaload) 1 400 := ⟨by decide +kernel, rfl⟩
theorem rL_law_400 : tq_D cL_law 400 (.aload_n 0) 1 401 := ⟨by decide +kernel, rfl⟩
theorem rL_law_401 : tq_D cL_law 401 (.iload_n 3) 1 402 := ⟨by decide +kernel, rfl⟩
theorem rL_law_402 : tq_D cL_law 402 (.iconst 2) 1 403 := ⟨by decide +kernel, rfl⟩
theorem rL_law_403 : tq_D cL_law 403 (.iadd) 1 404 := ⟨by decide +kernel, rfl⟩
theorem rL_law_404 : tq_D cL_law 404 (.iaload) 1 405 := ⟨by decide +kernel, rfl⟩
theorem rL_law_405 : tq_D cL_law 405 (.aload_n 0) 1 406 := ⟨by decide +kernel, rfl⟩
theorem rL_law_406 : tq_D cL_law 406 (.iload_n 3) 1 407 := ⟨by decide +kernel, rfl⟩
theorem rL_law_407 : tq_D cL_law 407 (.iconst 3) 1 408 := ⟨by decide +kernel, rfl⟩
theorem rL_law_408 : tq_D cL_law 408 (.iadd) 1 409 := ⟨by decide +kernel, rfl⟩
theorem rL_law_409 : tq_D cL_law 409 (.iaload) 1 410 := ⟨by decide +kernel, rfl⟩
theorem rL_law_410 : tq_D cL_law 410 (.invokevirtual 40) 3 413 := ⟨by decide +kernel, rfl⟩
theorem rL_law_413 : tq_J cL_law 413 (.if_icmp .eq) 1717 416 := ⟨1304, by decide +kernel, by decide, rfl⟩
theorem rL_law_416 : tq_D cL_law 416 (.iconst 0) 1 417 := ⟨by decide +kernel, rfl⟩
theorem rL_law_417 : decode cL_law 417 = .ok (.ireturn, 1) := by decide +kernel
theorem rL_law_418 : tq_D cL_law 418 (.aload_n 1) 1 419 := ⟨by decide +kernel, rfl⟩
theorem rL_law_419 : tq_D cL_law 419 (.aload_n 0) 1 420 := ⟨by decide +kernel, rfl⟩
theorem rL_law_420 : tq_D cL_law 420 (.iload_n 3) 1 421 := ⟨by decide +kernel, rfl⟩
theorem rL_law_421 : tq_D cL_law 421 (.iconst 1) 1 422 := ⟨by decide +kernel, rfl⟩
theorem rL_law_422 : tq_D cL_law 422 (.iadd) 1 423 := ⟨by decide +kernel, rfl⟩
theorem rL_law_423 : tq_D cL_law 423 (.iaload) 1 424 := ⟨by decide +kernel, rfl⟩
theorem rL_law_424 : tq_D cL_law 424 (.aload_n 0) 1 425 := ⟨by decide +kernel, rfl⟩
theorem rL_law_425 : tq_D cL_law 425 (.iload_n 3) 1 426 := ⟨by decide +kernel, rfl⟩
theorem rL_law_426 : tq_D cL_law 426 (.iconst 2) 1 427 := ⟨by decide +kernel, rfl⟩
theorem rL_law_427 : tq_D cL_law 427 (.iadd) 1 428 := ⟨by decide +kernel, rfl⟩
theorem rL_law_428 : tq_D cL_law 428 (.iaload) 1 429 := ⟨by decide +kernel, rfl⟩
theorem rL_law_429 : tq_D cL_law 429 (.invokevirtual 41) 3 432 := ⟨by decide +kernel, rfl⟩
theorem rL_law_432 : tq_D cL_law 432 (.aload_n 2) 1 433 := ⟨by decide +kernel, rfl⟩
theorem rL_law_433 : tq_D cL_law 433 (.aload_n 0) 1 434 := ⟨by decide +kernel, rfl⟩
theorem rL_law_434 : tq_D cL_law 434 (.iload_n 3) 1 435 := ⟨by decide +kernel, rfl⟩
theorem rL_law_435 : tq_D cL_law 435 (.iconst 1) 1 436 := ⟨by decide +kernel, rfl⟩
theorem rL_law_436 : tq_D cL_law 436 (.iadd) 1 437 := ⟨by decide +kernel, rfl⟩
theorem rL_law_437 : tq_D cL_law 437 (.iaload) 1 438 := ⟨by decide +kernel, rfl⟩
theorem rL_law_438 : tq_D cL_law 438 (.aload_n 0) 1 439 := ⟨by decide +kernel, rfl⟩
theorem rL_law_439 : tq_D cL_law 439 (.iload_n 3) 1 440 := ⟨by decide +kernel, rfl⟩
theorem rL_law_440 : tq_D cL_law 440 (.iconst 2) 1 441 := ⟨by decide +kernel, rfl⟩
theorem rL_law_441 : tq_D cL_law 441 (.iadd) 1 442 := ⟨by decide +kernel, rfl⟩
theorem rL_law_442 : tq_D cL_law 442 (.iaload) 1 443 := ⟨by decide +kernel, rfl⟩
theorem rL_law_443 : tq_D cL_law 443 (.invokevirtual 44) 3 446 := ⟨by decide +kernel, rfl⟩
theorem rL_law_446 : tq_J cL_law 446 (.if_icmp .eq) 1717 449 := ⟨1271, by decide +kernel, by decide, rfl⟩
theorem rL_law_449 : tq_D cL_law 449 (.iconst 0) 1 450 := ⟨by decide +kernel, rfl⟩
theorem rL_law_450 : decode cL_law 450 = .ok (.ireturn, 1) := by decide +kernel
theorem rL_law_451 : tq_D cL_law 451 (.aload_n 1) 1 452 := ⟨by decide +kernel, rfl⟩
theorem rL_law_452 : tq_D cL_law 452 (.aload_n 0) 1 453 := ⟨by decide +kernel, rfl⟩
theorem rL_law_453 : tq_D cL_law 453 (.iload_n 3) 1 454 := ⟨by decide +kernel, rfl⟩
theorem rL_law_454 : tq_D cL_law 454 (.iconst 1) 1 455 := ⟨by decide +kernel, rfl⟩
theorem rL_law_455 : tq_D cL_law 455 (.iadd) 1 456 := ⟨by decide +kernel, rfl⟩
theorem rL_law_456 : tq_D cL_law 456 (.iaload) 1 457 := ⟨by decide +kernel, rfl⟩
theorem rL_law_457 : tq_D cL_law 457 (.aload_n 0) 1 458 := ⟨by decide +kernel, rfl⟩
theorem rL_law_458 : tq_D cL_law 458 (.iload_n 3) 1 459 := ⟨by decide +kernel, rfl⟩
theorem rL_law_459 : tq_D cL_law 459 (.iconst 2) 1 460 := ⟨by decide +kernel, rfl⟩
theorem rL_law_460 : tq_D cL_law 460 (.iadd) 1 461 := ⟨by decide +kernel, rfl⟩
theorem rL_law_461 : tq_D cL_law 461 (.iaload) 1 462 := ⟨by decide +kernel, rfl⟩
theorem rL_law_462 : tq_D cL_law 462 (.aload_n 0) 1 463 := ⟨by decide +kernel, rfl⟩
theorem rL_law_463 : tq_D cL_law 463 (.iload_n 3) 1 464 := ⟨by decide +kernel, rfl⟩
theorem rL_law_464 : tq_D cL_law 464 (.iconst 3) 1 465 := ⟨by decide +kernel, rfl⟩
theorem rL_law_465 : tq_D cL_law 465 (.iadd) 1 466 := ⟨by decide +kernel, rfl⟩
theorem rL_law_466 : tq_D cL_law 466 (.iaload) 1 467 := ⟨by decide +kernel, rfl⟩
theorem rL_law_467 : tq_D cL_law 467 (.aload_n 0) 1 468 := ⟨by decide +kernel, rfl⟩
theorem rL_law_468 : tq_D cL_law 468 (.iload_n 3) 1 469 := ⟨by decide +kernel, rfl⟩
theorem rL_law_469 : tq_D cL_law 469 (.iconst 4) 1 470 := ⟨by decide +kernel, rfl⟩
theorem rL_law_470 : tq_D cL_law 470 (.iadd) 1 471 := ⟨by decide +kernel, rfl⟩
theorem rL_law_471 : tq_D cL_law 471 (.iaload) 1 472 := ⟨by decide +kernel, rfl⟩
theorem rL_law_472 : tq_D cL_law 472 (.invokevirtual 45) 3 475 := ⟨by decide +kernel, rfl⟩
theorem rL_law_475 : tq_D cL_law 475 (.aload_n 2) 1 476 := ⟨by decide +kernel, rfl⟩
theorem rL_law_476 : tq_D cL_law 476 (.aload_n 0) 1 477 := ⟨by decide +kernel, rfl⟩
theorem rL_law_477 : tq_D cL_law 477 (.iload_n 3) 1 478 := ⟨by decide +kernel, rfl⟩
theorem rL_law_478 : tq_D cL_law 478 (.iconst 1) 1 479 := ⟨by decide +kernel, rfl⟩
theorem rL_law_479 : tq_D cL_law 479 (.iadd) 1 480 := ⟨by decide +kernel, rfl⟩
theorem rL_law_480 : tq_D cL_law 480 (.iaload) 1 481 := ⟨by decide +kernel, rfl⟩
theorem rL_law_481 : tq_D cL_law 481 (.aload_n 0) 1 482 := ⟨by decide +kernel, rfl⟩
theorem rL_law_482 : tq_D cL_law 482 (.iload_n 3) 1 483 := ⟨by decide +kernel, rfl⟩
theorem rL_law_483 : tq_D cL_law 483 (.iconst 2) 1 484 := ⟨by decide +kernel, rfl⟩
theorem rL_law_484 : tq_D cL_law 484 (.iadd) 1 485 := ⟨by decide +kernel, rfl⟩
theorem rL_law_485 : tq_D cL_law 485 (.iaload) 1 486 := ⟨by decide +kernel, rfl⟩
theorem rL_law_486 : tq_D cL_law 486 (.aload_n 0) 1 487 := ⟨by decide +kernel, rfl⟩
theorem rL_law_487 : tq_D cL_law 487 (.iload_n 3) 1 488 := ⟨by decide +kernel, rfl⟩
theorem rL_law_488 : tq_D cL_law 488 (.iconst 3) 1 489 := ⟨by decide +kernel, rfl⟩
theorem rL_law_489 : tq_D cL_law 489 (.iadd) 1 490 := ⟨by decide +kernel, rfl⟩
theorem rL_law_490 : tq_D cL_law 490 (.iaload) 1 491 := ⟨by decide +kernel, rfl⟩
theorem rL_law_491 : tq_D cL_law 491 (.aload_n 0) 1 492 := ⟨by decide +kernel, rfl⟩
theorem rL_law_492 : tq_D cL_law 492 (.iload_n 3) 1 493 := ⟨by decide +kernel, rfl⟩
theorem rL_law_493 : tq_D cL_law 493 (.iconst 4) 1 494 := ⟨by decide +kernel, rfl⟩
theorem rL_law_494 : tq_D cL_law 494 (.iadd) 1 495 := ⟨by decide +kernel, rfl⟩
theorem rL_law_495 : tq_D cL_law 495 (.iaload) 1 496 := ⟨by decide +kernel, rfl⟩
theorem rL_law_496 : tq_D cL_law 496 (.invokevirtual 49) 3 499 := ⟨by decide +kernel, rfl⟩
theorem rL_law_499 : tq_J cL_law 499 (.if_icmp .eq) 1717 502 := ⟨1218, by decide +kernel, by decide, rfl⟩
theorem rL_law_502 : tq_D cL_law 502 (.iconst 0) 1 503 := ⟨by decide +kernel, rfl⟩
theorem rL_law_503 : decode cL_law 503 = .ok (.ireturn, 1) := by decide +kernel
theorem rL_law_504 : tq_D cL_law 504 (.aload_n 1) 1 505 := ⟨by decide +kernel, rfl⟩
theorem rL_law_505 : tq_D cL_law 505 (.aload_n 0) 1 506 := ⟨by decide +kernel, rfl⟩
theorem rL_law_506 : tq_D cL_law 506 (.iload_n 3) 1 507 := ⟨by decide +kernel, rfl⟩
theorem rL_law_507 : tq_D cL_law 507 (.iconst 1) 1 508 := ⟨by decide +kernel, rfl⟩
theorem rL_law_508 : tq_D cL_law 508 (.iadd) 1 509 := ⟨by decide +kernel, rfl⟩
theorem rL_law_509 : tq_D cL_law 509 (.iaload) 1 510 := ⟨by decide +kernel, rfl⟩
theorem rL_law_510 : tq_D cL_law 510 (.invokevirtual 50) 3 513 := ⟨by decide +kernel, rfl⟩
theorem rL_law_513 : tq_D cL_law 513 (.aload_n 2) 1 514 := ⟨by decide +kernel, rfl⟩
theorem rL_law_514 : tq_D cL_law 514 (.aload_n 0) 1 515 := ⟨by decide +kernel, rfl⟩
theorem rL_law_515 : tq_D cL_law 515 (.iload_n 3) 1 516 := ⟨by decide +kernel, rfl⟩
theorem rL_law_516 : tq_D cL_law 516 (.iconst 1) 1 517 := ⟨by decide +kernel, rfl⟩
theorem rL_law_517 : tq_D cL_law 517 (.iadd) 1 518 := ⟨by decide +kernel, rfl⟩
theorem rL_law_518 : tq_D cL_law 518 (.iaload) 1 519 := ⟨by decide +kernel, rfl⟩
theorem rL_law_519 : tq_D cL_law 519 (.invokevirtual 53) 3 522 := ⟨by decide +kernel, rfl⟩
theorem rL_law_522 : tq_J cL_law 522 (.if_icmp .eq) 1717 525 := ⟨1195, by decide +kernel, by decide, rfl⟩
theorem rL_law_525 : tq_D cL_law 525 (.iconst 0) 1 526 := ⟨by decide +kernel, rfl⟩
theorem rL_law_526 : decode cL_law 526 = .ok (.ireturn, 1) := by decide +kernel
theorem rL_law_527 : tq_D cL_law 527 (.aload_n 1) 1 528 := ⟨by decide +kernel, rfl⟩
theorem rL_law_528 : tq_D cL_law 528 (.aload_n 0) 1 529 := ⟨by decide +kernel, rfl⟩
theorem rL_law_529 : tq_D cL_law 529 (.iload_n 3) 1 530 := ⟨by decide +kernel, rfl⟩
theorem rL_law_530 : tq_D cL_law 530 (.iconst 1) 1 531 := ⟨by decide +kernel, rfl⟩
theorem rL_law_531 : tq_D cL_law 531 (.iadd) 1 532 := ⟨by decide +kernel, rfl⟩
theorem rL_law_532 : tq_D cL_law 532 (.iaload) 1 533 := ⟨by decide +kernel, rfl⟩
theorem rL_law_533 : tq_D cL_law 533 (.aload_n 0) 1 534 := ⟨by decide +kernel, rfl⟩
theorem rL_law_534 : tq_D cL_law 534 (.iload_n 3) 1 535 := ⟨by decide +kernel, rfl⟩
theorem rL_law_535 : tq_D cL_law 535 (.iconst 2) 1 536 := ⟨by decide +kernel, rfl⟩
theorem rL_law_536 : tq_D cL_law 536 (.iadd) 1 537 := ⟨by decide +kernel, rfl⟩
theorem rL_law_537 : tq_D cL_law 537 (.iaload) 1 538 := ⟨by decide +kernel, rfl⟩
theorem rL_law_538 : tq_D cL_law 538 (.aload_n 0) 1 539 := ⟨by decide +kernel, rfl⟩
theorem rL_law_539 : tq_D cL_law 539 (.iload_n 3) 1 540 := ⟨by decide +kernel, rfl⟩
theorem rL_law_540 : tq_D cL_law 540 (.iconst 3) 1 541 := ⟨by decide +kernel, rfl⟩
theorem rL_law_541 : tq_D cL_law 541 (.iadd) 1 542 := ⟨by decide +kernel, rfl⟩
theorem rL_law_542 : tq_D cL_law 542 (.iaload) 1 543 := ⟨by decide +kernel, rfl⟩
theorem rL_law_543 : tq_J cL_law 543 (.ifCond .eq) 550 546 := ⟨7, by decide +kernel, by decide, rfl⟩
theorem rL_law_546 : tq_D cL_law 546 (.iconst 1) 1 547 := ⟨by decide +kernel, rfl⟩
theorem rL_law_547 : tq_J cL_law 547 .goto 551 550 := ⟨4, by decide +kernel, by decide, rfl⟩
theorem rL_law_550 : tq_D cL_law 550 (.iconst 0) 1 551 := ⟨by decide +kernel, rfl⟩
theorem rL_law_551 : tq_D cL_law 551 (.aload_n 0) 1 552 := ⟨by decide +kernel, rfl⟩
theorem rL_law_552 : tq_D cL_law 552 (.iload_n 3) 1 553 := ⟨by decide +kernel, rfl⟩
theorem rL_law_553 : tq_D cL_law 553 (.iconst 4) 1 554 := ⟨by decide +kernel, rfl⟩
theorem rL_law_554 : tq_D cL_law 554 (.iadd) 1 555 := ⟨by decide +kernel, rfl⟩
theorem rL_law_555 : tq_D cL_law 555 (.iaload) 1 556 := ⟨by decide +kernel, rfl⟩
theorem rL_law_556 : tq_D cL_law 556 (.invokevirtual 54) 3 559 := ⟨by decide +kernel, rfl⟩
theorem rL_law_559 : tq_D cL_law 559 (.aload_n 2) 1 560 := ⟨by decide +kernel, rfl⟩
theorem rL_law_560 : tq_D cL_law 560 (.aload_n 0) 1 561 := ⟨by decide +kernel, rfl⟩
theorem rL_law_561 : tq_D cL_law 561 (.iload_n 3) 1 562 := ⟨by decide +kernel, rfl⟩
theorem rL_law_562 : tq_D cL_law 562 (.iconst 1) 1 563 := ⟨by decide +kernel, rfl⟩
theorem rL_law_563 : tq_D cL_law 563 (.iadd) 1 564 := ⟨by decide +kernel, rfl⟩
theorem rL_law_564 : tq_D cL_law 564 (.iaload) 1 565 := ⟨by decide +kernel, rfl⟩
theorem rL_law_565 : tq_D cL_law 565 (.aload_n 0) 1 566 := ⟨by decide +kernel, rfl⟩
theorem rL_law_566 : tq_D cL_law 566 (.iload_n 3) 1 567 := ⟨by decide +kernel, rfl⟩
theorem rL_law_567 : tq_D cL_law 567 (.iconst 2) 1 568 := ⟨by decide +kernel, rfl⟩
theorem rL_law_568 : tq_D cL_law 568 (.iadd) 1 569 := ⟨by decide +kernel, rfl⟩
theorem rL_law_569 : tq_D cL_law 569 (.iaload) 1 570 := ⟨by decide +kernel, rfl⟩
theorem rL_law_570 : tq_D cL_law 570 (.aload_n 0) 1 571 := ⟨by decide +kernel, rfl⟩
theorem rL_law_571 : tq_D cL_law 571 (.iload_n 3) 1 572 := ⟨by decide +kernel, rfl⟩
theorem rL_law_572 : tq_D cL_law 572 (.iconst 3) 1 573 := ⟨by decide +kernel, rfl⟩
theorem rL_law_573 : tq_D cL_law 573 (.iadd) 1 574 := ⟨by decide +kernel, rfl⟩
theorem rL_law_574 : tq_D cL_law 574 (.iaload) 1 575 := ⟨by decide +kernel, rfl⟩
theorem rL_law_575 : tq_J cL_law 575 (.ifCond .eq) 582 578 := ⟨7, by decide +kernel, by decide, rfl⟩
theorem rL_law_578 : tq_D cL_law 578 (.iconst 1) 1 579 := ⟨by decide +kernel, rfl⟩
theorem rL_law_579 : tq_J cL_law 579 .goto 583 582 := ⟨4, by decide +kernel, by decide, rfl⟩
theorem rL_law_582 : tq_D cL_law 582 (.iconst 0) 1 583 := ⟨by decide +kernel, rfl⟩
theorem rL_law_583 : tq_D cL_law 583 (.aload_n 0) 1 584 := ⟨by decide +kernel, rfl⟩
theorem rL_law_584 : tq_D cL_law 584 (.iload_n 3) 1 585 := ⟨by decide +kernel, rfl⟩
theorem rL_law_585 : tq_D cL_law 585 (.iconst 4) 1 586 := ⟨by decide +kernel, rfl⟩
theorem rL_law_586 : tq_D cL_law 586 (.iadd) 1 587 := ⟨by decide +kernel, rfl⟩
theorem rL_law_587 : tq_D cL_law 587 (.iaload) 1 588 := ⟨by decide +kernel, rfl⟩
theorem rL_law_588 : tq_D cL_law 588 (.invokevirtual 58) 3 591 := ⟨by decide +kernel, rfl⟩
theorem rL_law_591 : tq_J cL_law 591 (.if_icmp .eq) 1717 594 := ⟨1126, by decide +kernel, by decide, rfl⟩
theorem rL_law_594 : tq_D cL_law 594 (.iconst 0) 1 595 := ⟨by decide +kernel, rfl⟩
theorem rL_law_595 : decode cL_law 595 = .ok (.ireturn, 1) := by decide +kernel
theorem rL_law_596 : tq_D cL_law 596 (.aload_n 1) 1 597 := ⟨by decide +kernel, rfl⟩
theorem rL_law_597 : tq_D cL_law 597 (.aload_n 0) 1 598 := ⟨by decide +kernel, rfl⟩
theorem rL_law_598 : tq_D cL_law 598 (.iload_n 3) 1 599 := ⟨by decide +kernel, rfl⟩
theorem rL_law_599 : tq_D cL_law 599 (.iconst 1) 1 600 := ⟨by decide +kernel, rfl⟩
theorem rL_law_600 : tq_D cL_law 600 (.iadd) 1 601 := ⟨by decide +kernel, rfl⟩
theorem rL_law_601 : tq_D cL_law 601 (.iaload) 1 602 := ⟨by decide +kernel, rfl⟩
theorem rL_law_602 : tq_D cL_law 602 (.aload_n 0) 1 603 := ⟨by decide +kernel, rfl⟩
theorem rL_law_603 : tq_D cL_law 603 (.iload_n 3) 1 604 := ⟨by decide +kernel, rfl⟩
theorem rL_law_604 : tq_D cL_law 604 (.iconst 2) 1 605 := ⟨by decide +kernel, rfl⟩
theorem rL_law_605 : tq_D cL_law 605 (.iadd) 1 606 := ⟨by decide +kernel, rfl⟩
theorem rL_law_606 : tq_D cL_law 606 (.iaload) 1 607 := ⟨by decide +kernel, rfl⟩
theorem rL_law_607 : tq_D cL_law 607 (.invokevirtual 59) 3 610 := ⟨by decide +kernel, rfl⟩
theorem rL_law_610 : tq_D cL_law 610 (.aload_n 2) 1 611 := ⟨by decide +kernel, rfl⟩
theorem rL_law_611 : tq_D cL_law 611 (.aload_n 0) 1 612 := ⟨by decide +kernel, rfl⟩
theorem rL_law_612 : tq_D cL_law 612 (.iload_n 3) 1 613 := ⟨by decide +kernel, rfl⟩
theorem rL_law_613 : tq_D cL_law 613 (.iconst 1) 1 614 := ⟨by decide +kernel, rfl⟩
theorem rL_law_614 : tq_D cL_law 614 (.iadd) 1 615 := ⟨by decide +kernel, rfl⟩
theorem rL_law_615 : tq_D cL_law 615 (.iaload) 1 616 := ⟨by decide +kernel, rfl⟩
theorem rL_law_616 : tq_D cL_law 616 (.aload_n 0) 1 617 := ⟨by decide +kernel, rfl⟩
theorem rL_law_617 : tq_D cL_law 617 (.iload_n 3) 1 618 := ⟨by decide +kernel, rfl⟩
theorem rL_law_618 : tq_D cL_law 618 (.iconst 2) 1 619 := ⟨by decide +kernel, rfl⟩
theorem rL_law_619 : tq_D cL_law 619 (.iadd) 1 620 := ⟨by decide +kernel, rfl⟩
theorem rL_law_620 : tq_D cL_law 620 (.iaload) 1 621 := ⟨by decide +kernel, rfl⟩
theorem rL_law_621 : tq_D cL_law 621 (.invokevirtual 62) 3 624 := ⟨by decide +kernel, rfl⟩
theorem rL_law_624 : tq_J cL_law 624 (.if_icmp .eq) 1717 627 := ⟨1093, by decide +kernel, by decide, rfl⟩
theorem rL_law_627 : tq_D cL_law 627 (.iconst 0) 1 628 := ⟨by decide +kernel, rfl⟩
theorem rL_law_628 : decode cL_law 628 = .ok (.ireturn, 1) := by decide +kernel
theorem rL_law_629 : tq_D cL_law 629 (.aload_n 1) 1 630 := ⟨by decide +kernel, rfl⟩
theorem rL_law_630 : tq_D cL_law 630 (.aload_n 0) 1 631 := ⟨by decide +kernel, rfl⟩
theorem rL_law_631 : tq_D cL_law 631 (.iload_n 3) 1 632 := ⟨by decide +kernel, rfl⟩
theorem rL_law_632 : tq_D cL_law 632 (.iconst 1) 1 633 := ⟨by decide +kernel, rfl⟩
theorem rL_law_633 : tq_D cL_law 633 (.iadd) 1 634 := ⟨by decide +kernel, rfl⟩
theorem rL_law_634 : tq_D cL_law 634 (.iaload) 1 635 := ⟨by decide +kernel, rfl⟩
theorem rL_law_635 : tq_D cL_law 635 (.aload_n 0) 1 636 := ⟨by decide +kernel, rfl⟩
theorem rL_law_636 : tq_D cL_law 636 (.iload_n 3) 1 637 := ⟨by decide +kernel, rfl⟩
theorem rL_law_637 : tq_D cL_law 637 (.iconst 2) 1 638 := ⟨by decide +kernel, rfl⟩
theorem rL_law_638 : tq_D cL_law 638 (.iadd) 1 639 := ⟨by decide +kernel, rfl⟩
theorem rL_law_639 : tq_D cL_law 639 (.iaload) 1 640 := ⟨by decide +kernel, rfl⟩
theorem rL_law_640 : tq_D cL_law 640 (.aload_n 0) 1 641 := ⟨by decide +kernel, rfl⟩
theorem rL_law_641 : tq_D cL_law 641 (.iload_n 3) 1 642 := ⟨by decide +kernel, rfl⟩
theorem rL_law_642 : tq_D cL_law 642 (.iconst 3) 1 643 := ⟨by decide +kernel, rfl⟩
theorem rL_law_643 : tq_D cL_law 643 (.iadd) 1 644 := ⟨by decide +kernel, rfl⟩
theorem rL_law_644 : tq_D cL_law 644 (.iaload) 1 645 := ⟨by decide +kernel, rfl⟩
theorem rL_law_645 : tq_D cL_law 645 (.aload_n 0) 1 646 := ⟨by decide +kernel, rfl⟩
theorem rL_law_646 : tq_D cL_law 646 (.iload_n 3) 1 647 := ⟨by decide +kernel, rfl⟩
theorem rL_law_647 : tq_D cL_law 647 (.iconst 4) 1 648 := ⟨by decide +kernel, rfl⟩
theorem rL_law_648 : tq_D cL_law 648 (.iadd) 1 649 := ⟨by decide +kernel, rfl⟩
theorem rL_law_649 : tq_D cL_law 649 (.iaload) 1 650 := ⟨by decide +kernel, rfl⟩
theorem rL_law_650 : tq_D cL_law 650 (.invokevirtual 63) 3 653 := ⟨by decide +kernel, rfl⟩
theorem rL_law_653 : tq_D cL_law 653 (.aload_n 2) 1 654 := ⟨by decide +kernel, rfl⟩
theorem rL_law_654 : tq_D cL_law 654 (.aload_n 0) 1 655 := ⟨by decide +kernel, rfl⟩
theorem rL_law_655 : tq_D cL_law 655 (.iload_n 3) 1 656 := ⟨by decide +kernel, rfl⟩
theorem rL_law_656 : tq_D cL_law 656 (.iconst 1) 1 657 := ⟨by decide +kernel, rfl⟩
theorem rL_law_657 : tq_D cL_law 657 (.iadd) 1 658 := ⟨by decide +kernel, rfl⟩
theorem rL_law_658 : tq_D cL_law 658 (.iaload) 1 659 := ⟨by decide +kernel, rfl⟩
theorem rL_law_659 : tq_D cL_law 659 (.aload_n 0) 1 660 := ⟨by decide +kernel, rfl⟩
theorem rL_law_660 : tq_D cL_law 660 (.iload_n 3) 1 661 := ⟨by decide +kernel, rfl⟩
theorem rL_law_661 : tq_D cL_law 661 (.iconst 2) 1 662 := ⟨by decide +kernel, rfl⟩
theorem rL_law_662 : tq_D cL_law 662 (.iadd) 1 663 := ⟨by decide +kernel, rfl⟩
theorem rL_law_663 : tq_D cL_law 663 (.iaload) 1 664 := ⟨by decide +kernel, rfl⟩
theorem rL_law_664 : tq_D cL_law 664 (.aload_n 0) 1 665 := ⟨by decide +kernel, rfl⟩
theorem rL_law_665 : tq_D cL_law 665 (.iload_n 3) 1 666 := ⟨by decide +kernel, rfl⟩
theorem rL_law_666 : tq_D cL_law 666 (.iconst 3) 1 667 := ⟨by decide +kernel, rfl⟩
theorem rL_law_667 : tq_D cL_law 667 (.iadd) 1 668 := ⟨by decide +kernel, rfl⟩
theorem rL_law_668 : tq_D cL_law 668 (.iaload) 1 669 := ⟨by decide +kernel, rfl⟩
theorem rL_law_669 : tq_D cL_law 669 (.aload_n 0) 1 670 := ⟨by decide +kernel, rfl⟩
theorem rL_law_670 : tq_D cL_law 670 (.iload_n 3) 1 671 := ⟨by decide +kernel, rfl⟩
theorem rL_law_671 : tq_D cL_law 671 (.iconst 4) 1 672 := ⟨by decide +kernel, rfl⟩
theorem rL_law_672 : tq_D cL_law 672 (.iadd) 1 673 := ⟨by decide +kernel, rfl⟩
theorem rL_law_673 : tq_D cL_law 673 (.iaload) 1 674 := ⟨by decide +kernel, rfl⟩
theorem rL_law_674 : tq_D cL_law 674 (.invokevirtual 66) 3 677 := ⟨by decide +kernel, rfl⟩
theorem rL_law_677 : tq_J cL_law 677 (.if_icmp .eq) 1717 680 := ⟨1040, by decide +kernel, by decide, rfl⟩
theorem rL_law_680 : tq_D cL_law 680 (.iconst 0) 1 681 := ⟨by decide +kernel, rfl⟩
theorem rL_law_681 : decode cL_law 681 = .ok (.ireturn, 1) := by decide +kernel
theorem rL_law_682 : tq_D cL_law 682 (.aload_n 1) 1 683 := ⟨by decide +kernel, rfl⟩
theorem rL_law_683 : tq_D cL_law 683 (.aload_n 0) 1 684 := ⟨by decide +kernel, rfl⟩
