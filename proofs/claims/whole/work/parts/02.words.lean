theorem zw0 : zW (.fieldLink RX0 9 "EtchBath$Guards" "spots" "[I") := ⟨List.mem_append_right _ (List.mem_append_left _ (List.mem_of_getElem? (i := 105) rfl)), Or.inl (Or.inl rfl)⟩
theorem zw1 : zW (.fieldLink RX0 21 "EtchBath$Guards" "size" "I") := ⟨List.mem_append_right _ (List.mem_append_left _ (List.mem_of_getElem? (i := 108) rfl)), Or.inl (Or.inl rfl)⟩
theorem zw2 : zW (.fieldLink RX0 15 "EtchBath$Guards" "lows" "[I") := ⟨List.mem_append_right _ (List.mem_append_left _ (List.mem_of_getElem? (i := 106) rfl)), Or.inl (Or.inl rfl)⟩
theorem zw3 : zW (.fieldLink RX0 18 "EtchBath$Guards" "highs" "[I") := ⟨List.mem_append_right _ (List.mem_append_left _ (List.mem_of_getElem? (i := 107) rfl)), Or.inl (Or.inl rfl)⟩
theorem zw4 : zW (.methodLink RX4 215 Lib.Math.min.name) := ⟨List.mem_append_right _ (List.mem_append_right _ (List.mem_append_left _ (List.mem_of_getElem? (i := 15) rfl))), Or.inl (Or.inl rfl)⟩
theorem zw5 : zW (.static Lib.Math.min.name) := ⟨List.mem_append_right _ (List.mem_append_left _ (List.mem_of_getElem? (i := 228) rfl)), Or.inl (Or.inl rfl)⟩
theorem zw6 : zW (.initialized "java/lang/Math") := ⟨List.mem_append_right _ (List.mem_append_left _ (List.mem_of_getElem? (i := 7) rfl)), Or.inl (Or.inl rfl)⟩
theorem zw7 : zW (.code Lib.Math.min.name Lib.Math.min.code 2 (some .int)) := ⟨List.mem_append_right _ (List.mem_append_left _ (List.mem_of_getElem? (i := 229) rfl)), Or.inl (Or.inl rfl)⟩
theorem zw8 : zW (.methodLinkNest RX0 40 yX4_toneOf "EtchBath") := ⟨List.mem_append_right _ (List.mem_append_right _ (List.mem_append_left _ (List.mem_of_getElem? (i := 189) rfl))), Or.inr (Or.inr (Or.inl ⟨_, _, _, _, rfl⟩))⟩
theorem zw9 : zW (.static yX4_toneOf) := ⟨List.mem_append_right _ (List.mem_append_right _ (List.mem_append_left _ (List.mem_of_getElem? (i := 13) rfl))), Or.inl (Or.inl rfl)⟩
theorem zw10 : zW (.initialized RX4) := ⟨List.mem_append_right _ (List.mem_append_left _ (List.mem_of_getElem? (i := 1) rfl)), Or.inl (Or.inl rfl)⟩
theorem zw11 : zW (.code yX4_toneOf cX4_toneOf 1 (some .int)) := ⟨List.mem_append_right _ (List.mem_append_right _ (List.mem_append_left _ (List.mem_of_getElem? (i := 14) rfl))), Or.inl (Or.inl rfl)⟩
theorem zw12 : zW (.methodLink RX0 34 Lib.Math.min.name) := ⟨List.mem_append_right _ (List.mem_append_right _ (List.mem_append_left _ (List.mem_of_getElem? (i := 190) rfl))), Or.inl (Or.inl rfl)⟩
theorem zw13 : zW (.methodLinkNest RX0 44 yX4_worn "EtchBath") := ⟨List.mem_append_right _ (List.mem_append_right _ (List.mem_append_left _ (List.mem_of_getElem? (i := 191) rfl))), Or.inr (Or.inr (Or.inl ⟨_, _, _, _, rfl⟩))⟩
theorem zw14 : zW (.static yX4_worn) := ⟨List.mem_append_right _ (List.mem_append_right _ (List.mem_append_left _ (List.mem_of_getElem? (i := 158) rfl))), Or.inl (Or.inl rfl)⟩
theorem zw15 : zW (.code yX4_worn cX4_worn 1 (some .int)) := ⟨List.mem_append_right _ (List.mem_append_right _ (List.mem_append_left _ (List.mem_of_getElem? (i := 159) rfl))), Or.inl (Or.inl rfl)⟩
theorem zw16 : zW (.fieldLinkNest RX0 25 "EtchBath$Plates" "depths" "[I" "EtchBath") := ⟨List.mem_append_right _ (List.mem_append_left _ (List.mem_of_getElem? (i := 25) rfl)), Or.inr (Or.inl ⟨_, _, _, _, _, _, rfl⟩)⟩
theorem zw17 : zW (.methodLink RX0 30 yX0_pullsHeldBy) := ⟨List.mem_append_right _ (List.mem_append_right _ (List.mem_append_left _ (List.mem_of_getElem? (i := 185) rfl))), Or.inl (Or.inl rfl)⟩
theorem zw18 : zW (.instanceMethod yX0_pullsHeldBy) := ⟨List.mem_append_right _ (List.mem_append_right _ (List.mem_append_left _ (List.mem_of_getElem? (i := 187) rfl))), Or.inl (Or.inl rfl)⟩
theorem zw19 : zW (.selects RX0 yX0_pullsHeldBy yX0_pullsHeldBy) := ⟨List.mem_append_left _ (List.mem_of_getElem? (i := 11) rfl), Or.inl (Or.inl rfl)⟩
theorem zw20 : zW (.initialized RX0) := ⟨List.mem_append_right _ (List.mem_append_left _ (List.mem_of_getElem? (i := 5) rfl)), Or.inl (Or.inl rfl)⟩
theorem zw21 : zW (.code yX0_pullsHeldBy cX0_pullsHeldBy 6 (some .int)) := ⟨List.mem_append_right _ (List.mem_append_right _ (List.mem_append_left _ (List.mem_of_getElem? (i := 188) rfl))), Or.inl (Or.inl rfl)⟩
theorem zw22 : zW (.fieldLink RX1 9 "EtchBath$Plates" "kinds" "[I") := ⟨List.mem_append_right _ (List.mem_append_left _ (List.mem_of_getElem? (i := 22) rfl)), Or.inl (Or.inl rfl)⟩
theorem zw23 : zW (.fieldLink RX1 18 "EtchBath$Plates" "lives" "[I") := ⟨List.mem_append_right _ (List.mem_append_left _ (List.mem_of_getElem? (i := 28) rfl)), Or.inl (Or.inl rfl)⟩
theorem zw24 : zW (.fieldLink RX1 15 "EtchBath$Plates" "depths" "[I") := ⟨List.mem_append_right _ (List.mem_append_left _ (List.mem_of_getElem? (i := 24) rfl)), Or.inl (Or.inl rfl)⟩
theorem zw25 : zW (.methodLinkNest RX1 25 yX4_toneOf "EtchBath") := ⟨List.mem_append_right _ (List.mem_append_right _ (List.mem_append_left _ (List.mem_of_getElem? (i := 12) rfl))), Or.inr (Or.inr (Or.inl ⟨_, _, _, _, rfl⟩))⟩
theorem zw26 : zW (.fieldLink RX1 21 "EtchBath$Plates" "stops" "[Z") := ⟨List.mem_append_right _ (List.mem_append_left _ (List.mem_of_getElem? (i := 30) rfl)), Or.inl (Or.inl rfl)⟩
theorem zw27 : zW (.methodLink RX1 40 Lib.Math.min.name) := ⟨List.mem_append_right _ (List.mem_append_left _ (List.mem_of_getElem? (i := 227) rfl)), Or.inl (Or.inl rfl)⟩
theorem zw28 : zW (.methodLink RX1 33 yX1_bitingMinutes) := ⟨List.mem_append_right _ (List.mem_append_left _ (List.mem_of_getElem? (i := 223) rfl)), Or.inl (Or.inl rfl)⟩
theorem zw29 : zW (.instanceMethod yX1_bitingMinutes) := ⟨List.mem_append_right _ (List.mem_append_left _ (List.mem_of_getElem? (i := 225) rfl)), Or.inl (Or.inl rfl)⟩
theorem zw30 : zW (.selects RX1 yX1_bitingMinutes yX1_bitingMinutes) := ⟨List.mem_append_left _ (List.mem_of_getElem? (i := 3) rfl), Or.inl (Or.inl rfl)⟩
theorem zw31 : zW (.initialized RX1) := ⟨List.mem_append_right _ (List.mem_append_left _ (List.mem_of_getElem? (i := 2) rfl)), Or.inl (Or.inl rfl)⟩
theorem zw32 : zW (.code yX1_bitingMinutes cX1_bitingMinutes 3 (some .int)) := ⟨List.mem_append_right _ (List.mem_append_left _ (List.mem_of_getElem? (i := 226) rfl)), Or.inl (Or.inl rfl)⟩
theorem zw33 : zW (.methodLink RX1 37 yX1_timesBite) := ⟨List.mem_append_right _ (List.mem_append_left _ (List.mem_of_getElem? (i := 230) rfl)), Or.inl (Or.inl rfl)⟩
theorem zw34 : zW (.instanceMethod yX1_timesBite) := ⟨List.mem_append_right _ (List.mem_append_left _ (List.mem_of_getElem? (i := 179) rfl)), Or.inl (Or.inl rfl)⟩
theorem zw35 : zW (.selects RX1 yX1_timesBite yX1_timesBite) := ⟨List.mem_append_right _ (List.mem_append_left _ (List.mem_of_getElem? (i := 180) rfl)), Or.inl (Or.inl rfl)⟩
theorem zw36 : zW (.code yX1_timesBite cX1_timesBite 2 (some .int)) := ⟨List.mem_append_right _ (List.mem_append_left _ (List.mem_of_getElem? (i := 181) rfl)), Or.inl (Or.inl rfl)⟩
theorem zw37 : zW (.methodLink RX1 29 yX1_batheCell) := ⟨List.mem_append_right _ (List.mem_append_left _ (List.mem_of_getElem? (i := 219) rfl)), Or.inl (Or.inl rfl)⟩
theorem zw38 : zW (.instanceMethod yX1_batheCell) := ⟨List.mem_append_right _ (List.mem_append_left _ (List.mem_of_getElem? (i := 221) rfl)), Or.inl (Or.inl rfl)⟩
theorem zw39 : zW (.selects RX1 yX1_batheCell yX1_batheCell) := ⟨List.mem_append_left _ (List.mem_of_getElem? (i := 2) rfl), Or.inl (Or.inl rfl)⟩
theorem zw40 : zW (.code yX1_batheCell cX1_batheCell 5 none) := ⟨List.mem_append_right _ (List.mem_append_left _ (List.mem_of_getElem? (i := 222) rfl)), Or.inl (Or.inl rfl)⟩
theorem zw41 : zW (.methodLink RX1 45 Lib.Math.max.name) := ⟨List.mem_append_right _ (List.mem_append_right _ (List.mem_append_left _ (List.mem_of_getElem? (i := 3) rfl))), Or.inl (Or.inl rfl)⟩
theorem zw42 : zW (.static Lib.Math.max.name) := ⟨List.mem_append_right _ (List.mem_append_left _ (List.mem_of_getElem? (i := 209) rfl)), Or.inl (Or.inl rfl)⟩
theorem zw43 : zW (.code Lib.Math.max.name Lib.Math.max.code 2 (some .int)) := ⟨List.mem_append_right _ (List.mem_append_left _ (List.mem_of_getElem? (i := 210) rfl)), Or.inl (Or.inl rfl)⟩
theorem zw44 : zW (.methodLink RX1 48 yX1_minuteOfDepth) := ⟨List.mem_append_right _ (List.mem_append_right _ (List.mem_append_left _ (List.mem_of_getElem? (i := 28) rfl))), Or.inl (Or.inl rfl)⟩
theorem zw45 : zW (.instanceMethod yX1_minuteOfDepth) := ⟨List.mem_append_right _ (List.mem_append_right _ (List.mem_append_left _ (List.mem_of_getElem? (i := 30) rfl))), Or.inl (Or.inl rfl)⟩
theorem zw46 : zW (.selects RX1 yX1_minuteOfDepth yX1_minuteOfDepth) := ⟨List.mem_append_left _ (List.mem_of_getElem? (i := 4) rfl), Or.inl (Or.inl rfl)⟩
theorem zw47 : zW (.code yX1_minuteOfDepth cX1_minuteOfDepth 7 (some .int)) := ⟨List.mem_append_right _ (List.mem_append_right _ (List.mem_append_left _ (List.mem_of_getElem? (i := 31) rfl))), Or.inl (Or.inl rfl)⟩
theorem zw48 : zW (.fieldLink RX2 9 "EtchBath$Press" "downs" "[I") := ⟨List.mem_append_right _ (List.mem_append_left _ (List.mem_of_getElem? (i := 82) rfl)), Or.inl (Or.inl rfl)⟩
theorem zw49 : zW (.fieldLink RX2 15 "EtchBath$Press" "rights" "[I") := ⟨List.mem_append_right _ (List.mem_append_left _ (List.mem_of_getElem? (i := 84) rfl)), Or.inl (Or.inl rfl)⟩
theorem zw50 : zW (.methodLink RX2 33 yX1_toneAt) := ⟨List.mem_append_right _ (List.mem_append_right _ (List.mem_append_left _ (List.mem_of_getElem? (i := 140) rfl))), Or.inl (Or.inl rfl)⟩
theorem zw51 : zW (.instanceMethod yX1_toneAt) := ⟨List.mem_append_right _ (List.mem_append_right _ (List.mem_append_left _ (List.mem_of_getElem? (i := 9) rfl))), Or.inl (Or.inl rfl)⟩
theorem zw52 : zW (.selects RX1 yX1_toneAt yX1_toneAt) := ⟨List.mem_append_right _ (List.mem_append_right _ (List.mem_append_left _ (List.mem_of_getElem? (i := 10) rfl))), Or.inl (Or.inl rfl)⟩
theorem zw53 : zW (.code yX1_toneAt cX1_toneAt 2 (some .int)) := ⟨List.mem_append_right _ (List.mem_append_right _ (List.mem_append_left _ (List.mem_of_getElem? (i := 11) rfl))), Or.inl (Or.inl rfl)⟩
theorem zw54 : zW (.methodLink RX2 25 yX2_ink) := ⟨List.mem_append_right _ (List.mem_append_right _ (List.mem_append_left _ (List.mem_of_getElem? (i := 136) rfl))), Or.inl (Or.inl rfl)⟩
theorem zw55 : zW (.instanceMethod yX2_ink) := ⟨List.mem_append_right _ (List.mem_append_right _ (List.mem_append_left _ (List.mem_of_getElem? (i := 138) rfl))), Or.inl (Or.inl rfl)⟩
theorem zw56 : zW (.selects RX2 yX2_ink yX2_ink) := ⟨List.mem_append_left _ (List.mem_of_getElem? (i := 10) rfl), Or.inl (Or.inl rfl)⟩
theorem zw57 : zW (.initialized RX2) := ⟨List.mem_append_right _ (List.mem_append_left _ (List.mem_of_getElem? (i := 4) rfl)), Or.inl (Or.inl rfl)⟩
theorem zw58 : zW (.code yX2_ink cX2_ink 6 (some .int)) := ⟨List.mem_append_right _ (List.mem_append_right _ (List.mem_append_left _ (List.mem_of_getElem? (i := 139) rfl))), Or.inl (Or.inl rfl)⟩
theorem zw59 : zW (.methodLink RX2 29 yX2_colourAt) := ⟨List.mem_append_right _ (List.mem_append_right _ (List.mem_append_left _ (List.mem_of_getElem? (i := 164) rfl))), Or.inl (Or.inl rfl)⟩
theorem zw60 : zW (.instanceMethod yX2_colourAt) := ⟨List.mem_append_right _ (List.mem_append_right _ (List.mem_append_left _ (List.mem_of_getElem? (i := 133) rfl))), Or.inl (Or.inl rfl)⟩
theorem zw61 : zW (.selects RX2 yX2_colourAt yX2_colourAt) := ⟨List.mem_append_right _ (List.mem_append_right _ (List.mem_append_left _ (List.mem_of_getElem? (i := 134) rfl))), Or.inl (Or.inl rfl)⟩
theorem zw62 : zW (.code yX2_colourAt cX2_colourAt 3 (some .int)) := ⟨List.mem_append_right _ (List.mem_append_right _ (List.mem_append_left _ (List.mem_of_getElem? (i := 135) rfl))), Or.inl (Or.inl rfl)⟩
theorem zw63 : zW (.fieldLinkNest RX2 49 "EtchBath$Plates" "depths" "[I" "EtchBath") := ⟨List.mem_append_right _ (List.mem_append_left _ (List.mem_of_getElem? (i := 26) rfl)), Or.inr (Or.inl ⟨_, _, _, _, _, _, rfl⟩)⟩
theorem zw64 : zW (.methodLinkNest RX2 52 yX4_worn "EtchBath") := ⟨List.mem_append_right _ (List.mem_append_right _ (List.mem_append_left _ (List.mem_of_getElem? (i := 157) rfl))), Or.inr (Or.inr (Or.inl ⟨_, _, _, _, rfl⟩))⟩
theorem zw65 : zW (.fieldLink RX2 21 "EtchBath$Press" "pulls" "I") := ⟨List.mem_append_right _ (List.mem_append_left _ (List.mem_of_getElem? (i := 88) rfl)), Or.inl (Or.inl rfl)⟩
theorem zw66 : zW (.fieldLink RX2 18 "EtchBath$Press" "steels" "[I") := ⟨List.mem_append_right _ (List.mem_append_left _ (List.mem_of_getElem? (i := 86) rfl)), Or.inl (Or.inl rfl)⟩
theorem zw67 : zW (.methodLink RX2 39 Lib.Math.min.name) := ⟨List.mem_append_right _ (List.mem_append_right _ (List.mem_append_left _ (List.mem_of_getElem? (i := 153) rfl))), Or.inl (Or.inl rfl)⟩
theorem zw68 : zW (.methodLink RX2 45 yX2_wearPlate) := ⟨List.mem_append_right _ (List.mem_append_right _ (List.mem_append_left _ (List.mem_of_getElem? (i := 154) rfl))), Or.inl (Or.inl rfl)⟩
theorem zw69 : zW (.static yX2_wearPlate) := ⟨List.mem_append_right _ (List.mem_append_right _ (List.mem_append_left _ (List.mem_of_getElem? (i := 155) rfl))), Or.inl (Or.inl rfl)⟩
theorem zw70 : zW (.code yX2_wearPlate cX2_wearPlate 6 none) := ⟨List.mem_append_right _ (List.mem_append_right _ (List.mem_append_left _ (List.mem_of_getElem? (i := 156) rfl))), Or.inl (Or.inl rfl)⟩
theorem zw71 : zW (.fieldLink RX3 27 "EtchBath$Wishes" "size" "I") := ⟨List.mem_append_right _ (List.mem_append_left _ (List.mem_of_getElem? (i := 57) rfl)), Or.inl (Or.inl rfl)⟩
theorem zw72 : zW (.fieldLink RX3 9 "EtchBath$Wishes" "spots" "[I") := ⟨List.mem_append_right _ (List.mem_append_left _ (List.mem_of_getElem? (i := 51) rfl)), Or.inl (Or.inl rfl)⟩
theorem zw73 : zW (.fieldLink RX3 15 "EtchBath$Wishes" "tones" "[I") := ⟨List.mem_append_right _ (List.mem_append_left _ (List.mem_of_getElem? (i := 52) rfl)), Or.inl (Or.inl rfl)⟩
theorem zw74 : zW (.fieldLink RX3 18 "EtchBath$Wishes" "firsts" "[I") := ⟨List.mem_append_right _ (List.mem_append_left _ (List.mem_of_getElem? (i := 53) rfl)), Or.inl (Or.inl rfl)⟩
theorem zw75 : zW (.methodLink RX3 46 yX1_firstMinute) := ⟨List.mem_append_right _ (List.mem_append_right _ (List.mem_append_left _ (List.mem_of_getElem? (i := 70) rfl))), Or.inl (Or.inl rfl)⟩
theorem zw76 : zW (.instanceMethod yX1_firstMinute) := ⟨List.mem_append_right _ (List.mem_append_right _ (List.mem_append_left _ (List.mem_of_getElem? (i := 25) rfl))), Or.inl (Or.inl rfl)⟩
theorem zw77 : zW (.selects RX1 yX1_firstMinute yX1_firstMinute) := ⟨List.mem_append_right _ (List.mem_append_right _ (List.mem_append_left _ (List.mem_of_getElem? (i := 26) rfl))), Or.inl (Or.inl rfl)⟩
theorem zw78 : zW (.code yX1_firstMinute cX1_firstMinute 4 (some .int)) := ⟨List.mem_append_right _ (List.mem_append_right _ (List.mem_append_left _ (List.mem_of_getElem? (i := 27) rfl))), Or.inl (Or.inl rfl)⟩
theorem zw79 : zW (.fieldLink RX3 21 "EtchBath$Wishes" "lasts" "[I") := ⟨List.mem_append_right _ (List.mem_append_left _ (List.mem_of_getElem? (i := 54) rfl)), Or.inl (Or.inl rfl)⟩
theorem zw80 : zW (.methodLink RX3 52 yX1_lastMinute) := ⟨List.mem_append_right _ (List.mem_append_right _ (List.mem_append_left _ (List.mem_of_getElem? (i := 71) rfl))), Or.inl (Or.inl rfl)⟩
theorem zw81 : zW (.instanceMethod yX1_lastMinute) := ⟨List.mem_append_right _ (List.mem_append_right _ (List.mem_append_left _ (List.mem_of_getElem? (i := 33) rfl))), Or.inl (Or.inl rfl)⟩
theorem zw82 : zW (.selects RX1 yX1_lastMinute yX1_lastMinute) := ⟨List.mem_append_right _ (List.mem_append_right _ (List.mem_append_left _ (List.mem_of_getElem? (i := 34) rfl))), Or.inl (Or.inl rfl)⟩
theorem zw83 : zW (.code yX1_lastMinute cX1_lastMinute 4 (some .int)) := ⟨List.mem_append_right _ (List.mem_append_right _ (List.mem_append_left _ (List.mem_of_getElem? (i := 35) rfl))), Or.inl (Or.inl rfl)⟩
theorem zw84 : zW (.fieldLinkNest RX3 55 "EtchBath$Plates" "stops" "[Z" "EtchBath") := ⟨List.mem_append_right _ (List.mem_append_left _ (List.mem_of_getElem? (i := 32) rfl)), Or.inr (Or.inl ⟨_, _, _, _, _, _, rfl⟩)⟩
theorem zw85 : zW (.methodLink RX3 59 yX3_earliestLastBehind) := ⟨List.mem_append_right _ (List.mem_append_right _ (List.mem_append_left _ (List.mem_of_getElem? (i := 76) rfl))), Or.inl (Or.inl rfl)⟩
theorem zw86 : zW (.instanceMethod yX3_earliestLastBehind) := ⟨List.mem_append_right _ (List.mem_append_right _ (List.mem_append_left _ (List.mem_of_getElem? (i := 78) rfl))), Or.inl (Or.inl rfl)⟩
theorem zw87 : zW (.selects RX3 yX3_earliestLastBehind yX3_earliestLastBehind) := ⟨List.mem_append_left _ (List.mem_of_getElem? (i := 7) rfl), Or.inl (Or.inl rfl)⟩
theorem zw88 : zW (.initialized RX3) := ⟨List.mem_append_right _ (List.mem_append_left _ (List.mem_of_getElem? (i := 3) rfl)), Or.inl (Or.inl rfl)⟩
theorem zw89 : zW (.code yX3_earliestLastBehind cX3_earliestLastBehind 4 (some .int)) := ⟨List.mem_append_right _ (List.mem_append_right _ (List.mem_append_left _ (List.mem_of_getElem? (i := 79) rfl))), Or.inl (Or.inl rfl)⟩
theorem zw90 : zW (.methodLink RX3 38 yX3_fewestBehind) := ⟨List.mem_append_right _ (List.mem_append_right _ (List.mem_append_left _ (List.mem_of_getElem? (i := 72) rfl))), Or.inl (Or.inl rfl)⟩
theorem zw91 : zW (.instanceMethod yX3_fewestBehind) := ⟨List.mem_append_right _ (List.mem_append_right _ (List.mem_append_left _ (List.mem_of_getElem? (i := 74) rfl))), Or.inl (Or.inl rfl)⟩
theorem zw92 : zW (.selects RX3 yX3_fewestBehind yX3_fewestBehind) := ⟨List.mem_append_left _ (List.mem_of_getElem? (i := 6) rfl), Or.inl (Or.inl rfl)⟩
theorem zw93 : zW (.code yX3_fewestBehind cX3_fewestBehind 5 (some .int)) := ⟨List.mem_append_right _ (List.mem_append_right _ (List.mem_append_left _ (List.mem_of_getElem? (i := 75) rfl))), Or.inl (Or.inl rfl)⟩
theorem zw94 : zW (.fieldLink RX3 31 "EtchBath$Wishes" "planned" "I") := ⟨List.mem_append_right _ (List.mem_append_left _ (List.mem_of_getElem? (i := 59) rfl)), Or.inl (Or.inl rfl)⟩
theorem zw95 : zW (.methodLink RX3 34 yX3_findSpans) := ⟨List.mem_append_right _ (List.mem_append_right _ (List.mem_append_left _ (List.mem_of_getElem? (i := 66) rfl))), Or.inl (Or.inl rfl)⟩
theorem zw96 : zW (.instanceMethod yX3_findSpans) := ⟨List.mem_append_right _ (List.mem_append_right _ (List.mem_append_left _ (List.mem_of_getElem? (i := 68) rfl))), Or.inl (Or.inl rfl)⟩
theorem zw97 : zW (.selects RX3 yX3_findSpans yX3_findSpans) := ⟨List.mem_append_left _ (List.mem_of_getElem? (i := 5) rfl), Or.inl (Or.inl rfl)⟩
theorem zw98 : zW (.code yX3_findSpans cX3_findSpans 4 (some .boolean)) := ⟨List.mem_append_right _ (List.mem_append_right _ (List.mem_append_left _ (List.mem_of_getElem? (i := 69) rfl))), Or.inl (Or.inl rfl)⟩
theorem zw99 : zW (.methodLink RX3 42 yX3_leastMinuteBehind) := ⟨List.mem_append_right _ (List.mem_append_right _ (List.mem_append_left _ (List.mem_of_getElem? (i := 80) rfl))), Or.inl (Or.inl rfl)⟩
theorem zw100 : zW (.instanceMethod yX3_leastMinuteBehind) := ⟨List.mem_append_right _ (List.mem_append_right _ (List.mem_append_left _ (List.mem_of_getElem? (i := 82) rfl))), Or.inl (Or.inl rfl)⟩
theorem zw101 : zW (.selects RX3 yX3_leastMinuteBehind yX3_leastMinuteBehind) := ⟨List.mem_append_left _ (List.mem_of_getElem? (i := 8) rfl), Or.inl (Or.inl rfl)⟩
theorem zw102 : zW (.code yX3_leastMinuteBehind cX3_leastMinuteBehind 6 (some .int)) := ⟨List.mem_append_right _ (List.mem_append_right _ (List.mem_append_left _ (List.mem_of_getElem? (i := 83) rfl))), Or.inl (Or.inl rfl)⟩
theorem zw103 : zW (.fieldLink RX3 24 "EtchBath$Wishes" "minutes" "[I") := ⟨List.mem_append_right _ (List.mem_append_left _ (List.mem_of_getElem? (i := 55) rfl)), Or.inl (Or.inl rfl)⟩
theorem zw104 : zW (.methodLink RX3 62 yX1_bathePlate) := ⟨List.mem_append_right _ (List.mem_append_right _ (List.mem_append_left _ (List.mem_of_getElem? (i := 96) rfl))), Or.inl (Or.inl rfl)⟩
theorem zw105 : zW (.instanceMethod yX1_bathePlate) := ⟨List.mem_append_right _ (List.mem_append_left _ (List.mem_of_getElem? (i := 216) rfl)), Or.inl (Or.inl rfl)⟩
theorem zw106 : zW (.selects RX1 yX1_bathePlate yX1_bathePlate) := ⟨List.mem_append_right _ (List.mem_append_left _ (List.mem_of_getElem? (i := 217) rfl)), Or.inl (Or.inl rfl)⟩
theorem zw107 : zW (.code yX1_bathePlate cX1_bathePlate 5 none) := ⟨List.mem_append_right _ (List.mem_append_left _ (List.mem_of_getElem? (i := 218) rfl)), Or.inl (Or.inl rfl)⟩
theorem zw108 : zW (.methodLink RX3 66 yX3_stopDue) := ⟨List.mem_append_right _ (List.mem_append_right _ (List.mem_append_left _ (List.mem_of_getElem? (i := 97) rfl))), Or.inl (Or.inl rfl)⟩
theorem zw109 : zW (.instanceMethod yX3_stopDue) := ⟨List.mem_append_right _ (List.mem_append_right _ (List.mem_append_left _ (List.mem_of_getElem? (i := 99) rfl))), Or.inl (Or.inl rfl)⟩
theorem zw110 : zW (.selects RX3 yX3_stopDue yX3_stopDue) := ⟨List.mem_append_left _ (List.mem_of_getElem? (i := 9) rfl), Or.inl (Or.inl rfl)⟩
theorem zw111 : zW (.code yX3_stopDue cX3_stopDue 4 none) := ⟨List.mem_append_right _ (List.mem_append_right _ (List.mem_append_left _ (List.mem_of_getElem? (i := 100) rfl))), Or.inl (Or.inl rfl)⟩
theorem zw112 : zW (.constant RX4 208 (-1000000)) := ⟨List.mem_append_right _ (List.mem_append_left _ (List.mem_of_getElem? (i := 165) rfl)), Or.inl (Or.inl rfl)⟩
theorem zw113 : zW (.fieldLink RX4 45 "EtchBath" "findings" "[I") := ⟨List.mem_append_right _ (List.mem_append_left _ (List.mem_of_getElem? (i := 125) rfl)), Or.inl (Or.inl rfl)⟩
theorem zw114 : zW (.methodLink RX4 58 yX4_spotOf) := ⟨List.mem_append_right _ (List.mem_append_left _ (List.mem_of_getElem? (i := 154) rfl)), Or.inl (Or.inl rfl)⟩
theorem zw115 : zW (.static yX4_spotOf) := ⟨List.mem_append_right _ (List.mem_append_left _ (List.mem_of_getElem? (i := 155) rfl)), Or.inl (Or.inl rfl)⟩
theorem zw116 : zW (.code yX4_spotOf cX4_spotOf 1 (some .int)) := ⟨List.mem_append_right _ (List.mem_append_left _ (List.mem_of_getElem? (i := 156) rfl)), Or.inl (Or.inl rfl)⟩
theorem zw117 : zW (.constant RX4 66 (-1000001)) := ⟨List.mem_append_right _ (List.mem_append_left _ (List.mem_of_getElem? (i := 160) rfl)), Or.inl (Or.inl rfl)⟩
theorem zw118 : zW (.methodLink RX4 67 yX4_finding) := ⟨List.mem_append_right _ (List.mem_append_left _ (List.mem_of_getElem? (i := 161) rfl)), Or.inl (Or.inl rfl)⟩
theorem zw119 : zW (.instanceMethod yX4_finding) := ⟨List.mem_append_right _ (List.mem_append_left _ (List.mem_of_getElem? (i := 163) rfl)), Or.inl (Or.inl rfl)⟩
theorem zw120 : zW (.selects RX4 yX4_finding yX4_finding) := ⟨List.mem_append_left _ (List.mem_of_getElem? (i := 0) rfl), Or.inl (Or.inl rfl)⟩
theorem zw121 : zW (.code yX4_finding cX4_finding 3 (some .int)) := ⟨List.mem_append_right _ (List.mem_append_left _ (List.mem_of_getElem? (i := 164) rfl)), Or.inl (Or.inl rfl)⟩
theorem zw122 : zW (.methodLink RX4 62 yX4_isKind) := ⟨List.mem_append_right _ (List.mem_append_left _ (List.mem_of_getElem? (i := 157) rfl)), Or.inl (Or.inl rfl)⟩
theorem zw123 : zW (.static yX4_isKind) := ⟨List.mem_append_right _ (List.mem_append_left _ (List.mem_of_getElem? (i := 158) rfl)), Or.inl (Or.inl rfl)⟩
theorem zw124 : zW (.code yX4_isKind cX4_isKind 1 (some .boolean)) := ⟨List.mem_append_right _ (List.mem_append_left _ (List.mem_of_getElem? (i := 159) rfl)), Or.inl (Or.inl rfl)⟩
theorem zw125 : zW (.fieldLink RX4 12 "EtchBath" "plates" "LEtchBath$Plates;") := ⟨List.mem_append_right _ (List.mem_append_left _ (List.mem_of_getElem? (i := 119) rfl)), Or.inl (Or.inl rfl)⟩
theorem zw126 : zW (.fieldLinkNest RX4 70 "EtchBath$Plates" "kinds" "[I" "EtchBath") := ⟨List.mem_append_right _ (List.mem_append_left _ (List.mem_of_getElem? (i := 23) rfl)), Or.inr (Or.inl ⟨_, _, _, _, _, _, rfl⟩)⟩
theorem zw127 : zW (.methodLink RX4 73 yX1_layGround) := ⟨List.mem_append_right _ (List.mem_append_left _ (List.mem_of_getElem? (i := 166) rfl)), Or.inl (Or.inl rfl)⟩
theorem zw128 : zW (.instanceMethod yX1_layGround) := ⟨List.mem_append_right _ (List.mem_append_left _ (List.mem_of_getElem? (i := 167) rfl)), Or.inl (Or.inl rfl)⟩
theorem zw129 : zW (.selects RX1 yX1_layGround yX1_layGround) := ⟨List.mem_append_right _ (List.mem_append_left _ (List.mem_of_getElem? (i := 168) rfl)), Or.inl (Or.inl rfl)⟩
theorem zw130 : zW (.code yX1_layGround cX1_layGround 3 none) := ⟨List.mem_append_right _ (List.mem_append_left _ (List.mem_of_getElem? (i := 169) rfl)), Or.inl (Or.inl rfl)⟩
theorem zw131 : zW (.methodLink RX4 77 yX4_isUnder) := ⟨List.mem_append_right _ (List.mem_append_left _ (List.mem_of_getElem? (i := 174) rfl)), Or.inl (Or.inl rfl)⟩
theorem zw132 : zW (.static yX4_isUnder) := ⟨List.mem_append_right _ (List.mem_append_left _ (List.mem_of_getElem? (i := 175) rfl)), Or.inl (Or.inl rfl)⟩
theorem zw133 : zW (.code yX4_isUnder cX4_isUnder 2 (some .boolean)) := ⟨List.mem_append_right _ (List.mem_append_left _ (List.mem_of_getElem? (i := 176) rfl)), Or.inl (Or.inl rfl)⟩
theorem zw134 : zW (.methodLink RX4 82 yX1_timesBite) := ⟨List.mem_append_right _ (List.mem_append_left _ (List.mem_of_getElem? (i := 178) rfl)), Or.inl (Or.inl rfl)⟩
theorem zw135 : zW (.constant RX4 81 (-1000005)) := ⟨List.mem_append_right _ (List.mem_append_left _ (List.mem_of_getElem? (i := 177) rfl)), Or.inl (Or.inl rfl)⟩
theorem zw136 : zW (.methodLink RX4 85 yX4_isSwitch) := ⟨List.mem_append_right _ (List.mem_append_left _ (List.mem_of_getElem? (i := 186) rfl)), Or.inl (Or.inl rfl)⟩
theorem zw137 : zW (.static yX4_isSwitch) := ⟨List.mem_append_right _ (List.mem_append_left _ (List.mem_of_getElem? (i := 187) rfl)), Or.inl (Or.inl rfl)⟩
theorem zw138 : zW (.code yX4_isSwitch cX4_isSwitch 1 (some .boolean)) := ⟨List.mem_append_right _ (List.mem_append_left _ (List.mem_of_getElem? (i := 188) rfl)), Or.inl (Or.inl rfl)⟩
theorem zw139 : zW (.fieldLinkNest RX4 88 "EtchBath$Plates" "stops" "[Z" "EtchBath") := ⟨List.mem_append_right _ (List.mem_append_left _ (List.mem_of_getElem? (i := 31) rfl)), Or.inr (Or.inl ⟨_, _, _, _, _, _, rfl⟩)⟩
theorem zw140 : zW (.methodLink RX4 92 yX4_isPlate) := ⟨List.mem_append_right _ (List.mem_append_left _ (List.mem_of_getElem? (i := 193) rfl)), Or.inl (Or.inl rfl)⟩
theorem zw141 : zW (.static yX4_isPlate) := ⟨List.mem_append_right _ (List.mem_append_left _ (List.mem_of_getElem? (i := 194) rfl)), Or.inl (Or.inl rfl)⟩
theorem zw142 : zW (.code yX4_isPlate cX4_isPlate 1 (some .boolean)) := ⟨List.mem_append_right _ (List.mem_append_left _ (List.mem_of_getElem? (i := 195) rfl)), Or.inl (Or.inl rfl)⟩
theorem zw143 : zW (.methodLink RX4 95 yX1_cleanPlate) := ⟨List.mem_append_right _ (List.mem_append_left _ (List.mem_of_getElem? (i := 196) rfl)), Or.inl (Or.inl rfl)⟩
theorem zw144 : zW (.instanceMethod yX1_cleanPlate) := ⟨List.mem_append_right _ (List.mem_append_left _ (List.mem_of_getElem? (i := 197) rfl)), Or.inl (Or.inl rfl)⟩
theorem zw145 : zW (.selects RX1 yX1_cleanPlate yX1_cleanPlate) := ⟨List.mem_append_right _ (List.mem_append_left _ (List.mem_of_getElem? (i := 198) rfl)), Or.inl (Or.inl rfl)⟩
theorem zw146 : zW (.code yX1_cleanPlate cX1_cleanPlate 4 (some .int)) := ⟨List.mem_append_right _ (List.mem_append_left _ (List.mem_of_getElem? (i := 199) rfl)), Or.inl (Or.inl rfl)⟩
theorem zw147 : zW (.fieldLink RX4 52 "EtchBath" "strength" "I") := ⟨List.mem_append_right _ (List.mem_append_left _ (List.mem_of_getElem? (i := 127) rfl)), Or.inl (Or.inl rfl)⟩
theorem zw148 : zW (.fieldLink RX4 55 "EtchBath" "heat" "I") := ⟨List.mem_append_right _ (List.mem_append_left _ (List.mem_of_getElem? (i := 128) rfl)), Or.inl (Or.inl rfl)⟩
theorem zw149 : zW (.methodLink RX4 209 Lib.Math.max.name) := ⟨List.mem_append_right _ (List.mem_append_left _ (List.mem_of_getElem? (i := 208) rfl)), Or.inl (Or.inl rfl)⟩
theorem zw150 : zW (.methodLink RX4 98 yX4_bite) := ⟨List.mem_append_right _ (List.mem_append_left _ (List.mem_of_getElem? (i := 204) rfl)), Or.inl (Or.inl rfl)⟩
theorem zw151 : zW (.instanceMethod yX4_bite) := ⟨List.mem_append_right _ (List.mem_append_left _ (List.mem_of_getElem? (i := 206) rfl)), Or.inl (Or.inl rfl)⟩
theorem zw152 : zW (.selects RX4 yX4_bite yX4_bite) := ⟨List.mem_append_left _ (List.mem_of_getElem? (i := 1) rfl), Or.inl (Or.inl rfl)⟩
theorem zw153 : zW (.code yX4_bite cX4_bite 1 (some .int)) := ⟨List.mem_append_right _ (List.mem_append_left _ (List.mem_of_getElem? (i := 207) rfl)), Or.inl (Or.inl rfl)⟩
theorem zw154 : zW (.methodLink RX4 102 yX1_bathePlate) := ⟨List.mem_append_right _ (List.mem_append_left _ (List.mem_of_getElem? (i := 215) rfl)), Or.inl (Or.inl rfl)⟩
theorem zw155 : zW (.methodLink RX4 106 yX1_depthOfPlate) := ⟨List.mem_append_right _ (List.mem_append_left _ (List.mem_of_getElem? (i := 231) rfl)), Or.inl (Or.inl rfl)⟩
theorem zw156 : zW (.instanceMethod yX1_depthOfPlate) := ⟨List.mem_append_right _ (List.mem_append_left _ (List.mem_of_getElem? (i := 232) rfl)), Or.inl (Or.inl rfl)⟩
theorem zw157 : zW (.selects RX1 yX1_depthOfPlate yX1_depthOfPlate) := ⟨List.mem_append_right _ (List.mem_append_left _ (List.mem_of_getElem? (i := 233) rfl)), Or.inl (Or.inl rfl)⟩
theorem zw158 : zW (.code yX1_depthOfPlate cX1_depthOfPlate 4 (some .int)) := ⟨List.mem_append_right _ (List.mem_append_left _ (List.mem_of_getElem? (i := 234) rfl)), Or.inl (Or.inl rfl)⟩
theorem zw159 : zW (.methodLink RX4 109 yX1_scrapeCell) := ⟨List.mem_append_right _ (List.mem_append_left _ (List.mem_of_getElem? (i := 239) rfl)), Or.inl (Or.inl rfl)⟩
theorem zw160 : zW (.instanceMethod yX1_scrapeCell) := ⟨List.mem_append_right _ (List.mem_append_right _ (List.mem_append_left _ (List.mem_of_getElem? (i := 0) rfl))), Or.inl (Or.inl rfl)⟩
theorem zw161 : zW (.selects RX1 yX1_scrapeCell yX1_scrapeCell) := ⟨List.mem_append_right _ (List.mem_append_right _ (List.mem_append_left _ (List.mem_of_getElem? (i := 1) rfl))), Or.inl (Or.inl rfl)⟩
theorem zw162 : zW (.code yX1_scrapeCell cX1_scrapeCell 5 none) := ⟨List.mem_append_right _ (List.mem_append_right _ (List.mem_append_left _ (List.mem_of_getElem? (i := 2) rfl))), Or.inl (Or.inl rfl)⟩
theorem zw163 : zW (.fieldLinkNest RX4 112 "EtchBath$Plates" "depths" "[I" "EtchBath") := ⟨List.mem_append_right _ (List.mem_append_left _ (List.mem_of_getElem? (i := 27) rfl)), Or.inr (Or.inl ⟨_, _, _, _, _, _, rfl⟩)⟩
theorem zw164 : zW (.methodLink RX4 115 yX1_toneAt) := ⟨List.mem_append_right _ (List.mem_append_right _ (List.mem_append_left _ (List.mem_of_getElem? (i := 8) rfl))), Or.inl (Or.inl rfl)⟩
theorem zw165 : zW (.fieldLinkNest RX4 118 "EtchBath$Plates" "lives" "[I" "EtchBath") := ⟨List.mem_append_right _ (List.mem_append_left _ (List.mem_of_getElem? (i := 29) rfl)), Or.inr (Or.inl ⟨_, _, _, _, _, _, rfl⟩)⟩
theorem zw166 : zW (.methodLink RX4 121 yX4_isTone) := ⟨List.mem_append_right _ (List.mem_append_right _ (List.mem_append_left _ (List.mem_of_getElem? (i := 20) rfl))), Or.inl (Or.inl rfl)⟩
theorem zw167 : zW (.static yX4_isTone) := ⟨List.mem_append_right _ (List.mem_append_right _ (List.mem_append_left _ (List.mem_of_getElem? (i := 21) rfl))), Or.inl (Or.inl rfl)⟩
theorem zw168 : zW (.code yX4_isTone cX4_isTone 1 (some .boolean)) := ⟨List.mem_append_right _ (List.mem_append_right _ (List.mem_append_left _ (List.mem_of_getElem? (i := 22) rfl))), Or.inl (Or.inl rfl)⟩
theorem zw169 : zW (.methodLink RX4 125 yX1_firstMinute) := ⟨List.mem_append_right _ (List.mem_append_right _ (List.mem_append_left _ (List.mem_of_getElem? (i := 24) rfl))), Or.inl (Or.inl rfl)⟩
theorem zw170 : zW (.methodLink RX4 129 yX1_lastMinute) := ⟨List.mem_append_right _ (List.mem_append_right _ (List.mem_append_left _ (List.mem_of_getElem? (i := 32) rfl))), Or.inl (Or.inl rfl)⟩
theorem zw171 : zW (.constant RX4 132 (-1000002)) := ⟨List.mem_append_right _ (List.mem_append_right _ (List.mem_append_left _ (List.mem_of_getElem? (i := 36) rfl))), Or.inl (Or.inl rfl)⟩
theorem zw172 : zW (.constant RX4 124 (-1000003)) := ⟨List.mem_append_right _ (List.mem_append_right _ (List.mem_append_left _ (List.mem_of_getElem? (i := 23) rfl))), Or.inl (Or.inl rfl)⟩
theorem zw173 : zW (.fieldLink RX4 23 "EtchBath" "wishes" "LEtchBath$Wishes;") := ⟨List.mem_append_right _ (List.mem_append_left _ (List.mem_of_getElem? (i := 121) rfl)), Or.inl (Or.inl rfl)⟩
theorem zw174 : zW (.methodLink RX4 133 yX3_isOfSamePlate) := ⟨List.mem_append_right _ (List.mem_append_right _ (List.mem_append_left _ (List.mem_of_getElem? (i := 41) rfl))), Or.inl (Or.inl rfl)⟩
theorem zw175 : zW (.instanceMethod yX3_isOfSamePlate) := ⟨List.mem_append_right _ (List.mem_append_right _ (List.mem_append_left _ (List.mem_of_getElem? (i := 42) rfl))), Or.inl (Or.inl rfl)⟩
theorem zw176 : zW (.selects RX3 yX3_isOfSamePlate yX3_isOfSamePlate) := ⟨List.mem_append_right _ (List.mem_append_right _ (List.mem_append_left _ (List.mem_of_getElem? (i := 43) rfl))), Or.inl (Or.inl rfl)⟩
theorem zw177 : zW (.code yX3_isOfSamePlate cX3_isOfSamePlate 2 (some .boolean)) := ⟨List.mem_append_right _ (List.mem_append_right _ (List.mem_append_left _ (List.mem_of_getElem? (i := 44) rfl))), Or.inl (Or.inl rfl)⟩
theorem zw178 : zW (.methodLink RX4 136 yX3_hasSpot) := ⟨List.mem_append_right _ (List.mem_append_right _ (List.mem_append_left _ (List.mem_of_getElem? (i := 45) rfl))), Or.inl (Or.inl rfl)⟩
theorem zw179 : zW (.instanceMethod yX3_hasSpot) := ⟨List.mem_append_right _ (List.mem_append_right _ (List.mem_append_left _ (List.mem_of_getElem? (i := 46) rfl))), Or.inl (Or.inl rfl)⟩
theorem zw180 : zW (.selects RX3 yX3_hasSpot yX3_hasSpot) := ⟨List.mem_append_right _ (List.mem_append_right _ (List.mem_append_left _ (List.mem_of_getElem? (i := 47) rfl))), Or.inl (Or.inl rfl)⟩
theorem zw181 : zW (.code yX3_hasSpot cX3_hasSpot 3 (some .boolean)) := ⟨List.mem_append_right _ (List.mem_append_right _ (List.mem_append_left _ (List.mem_of_getElem? (i := 48) rfl))), Or.inl (Or.inl rfl)⟩
theorem zw182 : zW (.fieldLinkNest RX4 139 "EtchBath$Wishes" "size" "I" "EtchBath") := ⟨List.mem_append_right _ (List.mem_append_left _ (List.mem_of_getElem? (i := 58) rfl)), Or.inr (Or.inl ⟨_, _, _, _, _, _, rfl⟩)⟩
theorem zw183 : zW (.methodLink RX4 143 yX3_addWish) := ⟨List.mem_append_right _ (List.mem_append_right _ (List.mem_append_left _ (List.mem_of_getElem? (i := 50) rfl))), Or.inl (Or.inl rfl)⟩
theorem zw184 : zW (.instanceMethod yX3_addWish) := ⟨List.mem_append_right _ (List.mem_append_right _ (List.mem_append_left _ (List.mem_of_getElem? (i := 51) rfl))), Or.inl (Or.inl rfl)⟩
theorem zw185 : zW (.selects RX3 yX3_addWish yX3_addWish) := ⟨List.mem_append_right _ (List.mem_append_right _ (List.mem_append_left _ (List.mem_of_getElem? (i := 52) rfl))), Or.inl (Or.inl rfl)⟩
theorem zw186 : zW (.code yX3_addWish cX3_addWish 3 none) := ⟨List.mem_append_right _ (List.mem_append_right _ (List.mem_append_left _ (List.mem_of_getElem? (i := 53) rfl))), Or.inl (Or.inl rfl)⟩
theorem zw187 : zW (.constant RX4 142 (-1000004)) := ⟨List.mem_append_right _ (List.mem_append_right _ (List.mem_append_left _ (List.mem_of_getElem? (i := 49) rfl))), Or.inl (Or.inl rfl)⟩
theorem zw188 : zW (.methodLink RX4 146 yX3_plan) := ⟨List.mem_append_right _ (List.mem_append_right _ (List.mem_append_left _ (List.mem_of_getElem? (i := 62) rfl))), Or.inl (Or.inl rfl)⟩
theorem zw189 : zW (.instanceMethod yX3_plan) := ⟨List.mem_append_right _ (List.mem_append_right _ (List.mem_append_left _ (List.mem_of_getElem? (i := 63) rfl))), Or.inl (Or.inl rfl)⟩
theorem zw190 : zW (.selects RX3 yX3_plan yX3_plan) := ⟨List.mem_append_right _ (List.mem_append_right _ (List.mem_append_left _ (List.mem_of_getElem? (i := 64) rfl))), Or.inl (Or.inl rfl)⟩
theorem zw191 : zW (.code yX3_plan cX3_plan 6 (some .boolean)) := ⟨List.mem_append_right _ (List.mem_append_right _ (List.mem_append_left _ (List.mem_of_getElem? (i := 65) rfl))), Or.inl (Or.inl rfl)⟩
theorem zw192 : zW (.fieldLinkNest RX4 150 "EtchBath$Wishes" "planned" "I" "EtchBath") := ⟨List.mem_append_right _ (List.mem_append_left _ (List.mem_of_getElem? (i := 60) rfl)), Or.inr (Or.inl ⟨_, _, _, _, _, _, rfl⟩)⟩
theorem zw193 : zW (.fieldLinkNest RX4 153 "EtchBath$Wishes" "minutes" "[I" "EtchBath") := ⟨List.mem_append_right _ (List.mem_append_left _ (List.mem_of_getElem? (i := 56) rfl)), Or.inr (Or.inl ⟨_, _, _, _, _, _, rfl⟩)⟩
theorem zw194 : zW (.methodLink RX4 156 yX3_fulfil) := ⟨List.mem_append_right _ (List.mem_append_right _ (List.mem_append_left _ (List.mem_of_getElem? (i := 92) rfl))), Or.inl (Or.inl rfl)⟩
theorem zw195 : zW (.instanceMethod yX3_fulfil) := ⟨List.mem_append_right _ (List.mem_append_right _ (List.mem_append_left _ (List.mem_of_getElem? (i := 93) rfl))), Or.inl (Or.inl rfl)⟩
theorem zw196 : zW (.selects RX3 yX3_fulfil yX3_fulfil) := ⟨List.mem_append_right _ (List.mem_append_right _ (List.mem_append_left _ (List.mem_of_getElem? (i := 94) rfl))), Or.inl (Or.inl rfl)⟩
theorem zw197 : zW (.code yX3_fulfil cX3_fulfil 5 none) := ⟨List.mem_append_right _ (List.mem_append_right _ (List.mem_append_left _ (List.mem_of_getElem? (i := 95) rfl))), Or.inl (Or.inl rfl)⟩
theorem zw198 : zW (.fieldLink RX4 30 "EtchBath" "press" "LEtchBath$Press;") := ⟨List.mem_append_right _ (List.mem_append_left _ (List.mem_of_getElem? (i := 122) rfl)), Or.inl (Or.inl rfl)⟩
theorem zw199 : zW (.fieldLinkNest RX4 170 "EtchBath$Press" "downs" "[I" "EtchBath") := ⟨List.mem_append_right _ (List.mem_append_left _ (List.mem_of_getElem? (i := 83) rfl)), Or.inr (Or.inl ⟨_, _, _, _, _, _, rfl⟩)⟩
theorem zw200 : zW (.fieldLinkNest RX4 173 "EtchBath$Press" "rights" "[I" "EtchBath") := ⟨List.mem_append_right _ (List.mem_append_left _ (List.mem_of_getElem? (i := 85) rfl)), Or.inr (Or.inl ⟨_, _, _, _, _, _, rfl⟩)⟩
theorem zw201 : zW (.methodLink RX4 176 yX2_colourAt) := ⟨List.mem_append_right _ (List.mem_append_right _ (List.mem_append_left _ (List.mem_of_getElem? (i := 132) rfl))), Or.inl (Or.inl rfl)⟩
theorem zw202 : zW (.fieldLinkNest RX4 179 "EtchBath$Press" "steels" "[I" "EtchBath") := ⟨List.mem_append_right _ (List.mem_append_left _ (List.mem_of_getElem? (i := 87) rfl)), Or.inr (Or.inl ⟨_, _, _, _, _, _, rfl⟩)⟩
theorem zw203 : zW (.methodLink RX4 182 yX2_pullAll) := ⟨List.mem_append_right _ (List.mem_append_right _ (List.mem_append_left _ (List.mem_of_getElem? (i := 149) rfl))), Or.inl (Or.inl rfl)⟩
theorem zw204 : zW (.instanceMethod yX2_pullAll) := ⟨List.mem_append_right _ (List.mem_append_right _ (List.mem_append_left _ (List.mem_of_getElem? (i := 150) rfl))), Or.inl (Or.inl rfl)⟩
theorem zw205 : zW (.selects RX2 yX2_pullAll yX2_pullAll) := ⟨List.mem_append_right _ (List.mem_append_right _ (List.mem_append_left _ (List.mem_of_getElem? (i := 151) rfl))), Or.inl (Or.inl rfl)⟩
theorem zw206 : zW (.code yX2_pullAll cX2_pullAll 5 none) := ⟨List.mem_append_right _ (List.mem_append_right _ (List.mem_append_left _ (List.mem_of_getElem? (i := 152) rfl))), Or.inl (Or.inl rfl)⟩
theorem zw207 : zW (.methodLink RX4 185 yX2_colourOfAll) := ⟨List.mem_append_right _ (List.mem_append_right _ (List.mem_append_left _ (List.mem_of_getElem? (i := 160) rfl))), Or.inl (Or.inl rfl)⟩
theorem zw208 : zW (.instanceMethod yX2_colourOfAll) := ⟨List.mem_append_right _ (List.mem_append_right _ (List.mem_append_left _ (List.mem_of_getElem? (i := 161) rfl))), Or.inl (Or.inl rfl)⟩
theorem zw209 : zW (.selects RX2 yX2_colourOfAll yX2_colourOfAll) := ⟨List.mem_append_right _ (List.mem_append_right _ (List.mem_append_left _ (List.mem_of_getElem? (i := 162) rfl))), Or.inl (Or.inl rfl)⟩
theorem zw210 : zW (.code yX2_colourOfAll cX2_colourOfAll 4 (some .int)) := ⟨List.mem_append_right _ (List.mem_append_right _ (List.mem_append_left _ (List.mem_of_getElem? (i := 163) rfl))), Or.inl (Or.inl rfl)⟩
theorem zw211 : zW (.fieldLink RX4 37 "EtchBath" "guards" "LEtchBath$Guards;") := ⟨List.mem_append_right _ (List.mem_append_left _ (List.mem_of_getElem? (i := 123) rfl)), Or.inl (Or.inl rfl)⟩
theorem zw212 : zW (.fieldLinkNest RX4 189 "EtchBath$Guards" "size" "I" "EtchBath") := ⟨List.mem_append_right _ (List.mem_append_left _ (List.mem_of_getElem? (i := 109) rfl)), Or.inr (Or.inl ⟨_, _, _, _, _, _, rfl⟩)⟩
theorem zw213 : zW (.methodLink RX4 193 yX0_addGuard) := ⟨List.mem_append_right _ (List.mem_append_right _ (List.mem_append_left _ (List.mem_of_getElem? (i := 173) rfl))), Or.inl (Or.inl rfl)⟩
theorem zw214 : zW (.instanceMethod yX0_addGuard) := ⟨List.mem_append_right _ (List.mem_append_right _ (List.mem_append_left _ (List.mem_of_getElem? (i := 174) rfl))), Or.inl (Or.inl rfl)⟩
theorem zw215 : zW (.selects RX0 yX0_addGuard yX0_addGuard) := ⟨List.mem_append_right _ (List.mem_append_right _ (List.mem_append_left _ (List.mem_of_getElem? (i := 175) rfl))), Or.inl (Or.inl rfl)⟩
theorem zw216 : zW (.code yX0_addGuard cX0_addGuard 4 none) := ⟨List.mem_append_right _ (List.mem_append_right _ (List.mem_append_left _ (List.mem_of_getElem? (i := 176) rfl))), Or.inl (Or.inl rfl)⟩
theorem zw217 : zW (.methodLink RX4 190 yX0_plateOfAll) := ⟨List.mem_append_right _ (List.mem_append_right _ (List.mem_append_left _ (List.mem_of_getElem? (i := 169) rfl))), Or.inl (Or.inl rfl)⟩
theorem zw218 : zW (.instanceMethod yX0_plateOfAll) := ⟨List.mem_append_right _ (List.mem_append_right _ (List.mem_append_left _ (List.mem_of_getElem? (i := 170) rfl))), Or.inl (Or.inl rfl)⟩
theorem zw219 : zW (.selects RX0 yX0_plateOfAll yX0_plateOfAll) := ⟨List.mem_append_right _ (List.mem_append_right _ (List.mem_append_left _ (List.mem_of_getElem? (i := 171) rfl))), Or.inl (Or.inl rfl)⟩
theorem zw220 : zW (.code yX0_plateOfAll cX0_plateOfAll 1 (some .int)) := ⟨List.mem_append_right _ (List.mem_append_right _ (List.mem_append_left _ (List.mem_of_getElem? (i := 172) rfl))), Or.inl (Or.inl rfl)⟩
theorem zw221 : zW (.methodLink RX4 196 yX0_pullsHeld) := ⟨List.mem_append_right _ (List.mem_append_right _ (List.mem_append_left _ (List.mem_of_getElem? (i := 181) rfl))), Or.inl (Or.inl rfl)⟩
theorem zw222 : zW (.instanceMethod yX0_pullsHeld) := ⟨List.mem_append_right _ (List.mem_append_right _ (List.mem_append_left _ (List.mem_of_getElem? (i := 182) rfl))), Or.inl (Or.inl rfl)⟩
theorem zw223 : zW (.selects RX0 yX0_pullsHeld yX0_pullsHeld) := ⟨List.mem_append_right _ (List.mem_append_right _ (List.mem_append_left _ (List.mem_of_getElem? (i := 183) rfl))), Or.inl (Or.inl rfl)⟩
theorem zw224 : zW (.code yX0_pullsHeld cX0_pullsHeld 5 (some .int)) := ⟨List.mem_append_right _ (List.mem_append_right _ (List.mem_append_left _ (List.mem_of_getElem? (i := 184) rfl))), Or.inl (Or.inl rfl)⟩
theorem zw225 : zW (.fieldLink RX4 48 "EtchBath" "waiting" "I") := ⟨List.mem_append_right _ (List.mem_append_left _ (List.mem_of_getElem? (i := 126) rfl)), Or.inl (Or.inl rfl)⟩
theorem zw226 : zW (.fieldLink RX4 41 "EtchBath" "numbers" "[I") := ⟨List.mem_append_right _ (List.mem_append_left _ (List.mem_of_getElem? (i := 124) rfl)), Or.inl (Or.inl rfl)⟩
theorem zw227 : zW (.fieldLink RX4 16 "EtchBath" "states" "[LEtchBath$Plates;") := ⟨List.mem_append_right _ (List.mem_append_left _ (List.mem_of_getElem? (i := 120) rfl)), Or.inl (Or.inl rfl)⟩
theorem zw228 : zW (.methodLink RX4 199 yX4_statesKept) := ⟨List.mem_append_right _ (List.mem_append_right _ (List.mem_append_left _ (List.mem_of_getElem? (i := 204) rfl))), Or.inl (Or.inl rfl)⟩
theorem zw229 : zW (.instanceMethod yX4_statesKept) := ⟨List.mem_append_right _ (List.mem_append_right _ (List.mem_append_left _ (List.mem_of_getElem? (i := 206) rfl))), Or.inl (Or.inl rfl)⟩
theorem zw230 : zW (.selects RX4 yX4_statesKept yX4_statesKept) := ⟨List.mem_append_left _ (List.mem_of_getElem? (i := 12) rfl), Or.inl (Or.inl rfl)⟩
theorem zw231 : zW (.code yX4_statesKept cX4_statesKept 3 (some .int)) := ⟨List.mem_append_right _ (List.mem_append_right _ (List.mem_append_left _ (List.mem_of_getElem? (i := 207) rfl))), Or.inl (Or.inl rfl)⟩
theorem zw232 : zW (.methodLink RX4 202 yX1_stoppedOfAll) := ⟨List.mem_append_right _ (List.mem_append_right _ (List.mem_append_left _ (List.mem_of_getElem? (i := 208) rfl))), Or.inl (Or.inl rfl)⟩
theorem zw233 : zW (.instanceMethod yX1_stoppedOfAll) := ⟨List.mem_append_right _ (List.mem_append_right _ (List.mem_append_left _ (List.mem_of_getElem? (i := 209) rfl))), Or.inl (Or.inl rfl)⟩
theorem zw234 : zW (.selects RX1 yX1_stoppedOfAll yX1_stoppedOfAll) := ⟨List.mem_append_right _ (List.mem_append_right _ (List.mem_append_left _ (List.mem_of_getElem? (i := 210) rfl))), Or.inl (Or.inl rfl)⟩
theorem zw235 : zW (.code yX1_stoppedOfAll cX1_stoppedOfAll 3 (some .int)) := ⟨List.mem_append_right _ (List.mem_append_right _ (List.mem_append_left _ (List.mem_of_getElem? (i := 211) rfl))), Or.inl (Or.inl rfl)⟩
theorem zw236 : zW (.fieldLinkNest RX4 205 "EtchBath$Press" "pulls" "I" "EtchBath") := ⟨List.mem_append_right _ (List.mem_append_left _ (List.mem_of_getElem? (i := 89) rfl)), Or.inr (Or.inl ⟨_, _, _, _, _, _, rfl⟩)⟩
theorem zw237 : zW (.fieldLink RX5 69 "EtchBathModel" "found" "[I") := ⟨List.mem_append_right _ (List.mem_append_right _ (List.mem_append_right _ (List.mem_append_left _ (List.mem_of_getElem? (i := 6) rfl)))), Or.inl (Or.inl rfl)⟩
theorem zw238 : zW (.constant RX5 78 (-1000000)) := ⟨List.mem_append_right _ (List.mem_append_right _ (List.mem_append_right _ (List.mem_append_left _ (List.mem_of_getElem? (i := 84) rfl)))), Or.inl (Or.inl rfl)⟩
theorem zw239 : zW (.methodLink RX5 79 yX5_in) := ⟨List.mem_append_right _ (List.mem_append_right _ (List.mem_append_right _ (List.mem_append_left _ (List.mem_of_getElem? (i := 77) rfl)))), Or.inl (Or.inl rfl)⟩
theorem zw240 : zW (.static yX5_in) := ⟨List.mem_append_right _ (List.mem_append_right _ (List.mem_append_right _ (List.mem_append_left _ (List.mem_of_getElem? (i := 78) rfl)))), Or.inl (Or.inl rfl)⟩
theorem zw241 : zW (.initialized RX5) := ⟨List.mem_append_right _ (List.mem_append_left _ (List.mem_of_getElem? (i := 6) rfl)), Or.inl (Or.inl rfl)⟩
theorem zw242 : zW (.code yX5_in cX5_in 3 (some .boolean)) := ⟨List.mem_append_right _ (List.mem_append_right _ (List.mem_append_right _ (List.mem_append_left _ (List.mem_of_getElem? (i := 79) rfl)))), Or.inl (Or.inl rfl)⟩
theorem zw243 : zW (.fieldLink RX5 26 "EtchBathModel" "strength" "I") := ⟨List.mem_append_right _ (List.mem_append_right _ (List.mem_append_left _ (List.mem_of_getElem? (i := 227) rfl))), Or.inl (Or.inl rfl)⟩
theorem zw244 : zW (.fieldLink RX5 30 "EtchBathModel" "heat" "I") := ⟨List.mem_append_right _ (List.mem_append_right _ (List.mem_append_left _ (List.mem_of_getElem? (i := 228) rfl))), Or.inl (Or.inl rfl)⟩
theorem zw245 : zW (.fieldLink RX5 7 "EtchBathModel" "ground" "[I") := ⟨List.mem_append_right _ (List.mem_append_right _ (List.mem_append_left _ (List.mem_of_getElem? (i := 222) rfl))), Or.inl (Or.inl rfl)⟩
theorem zw246 : zW (.fieldLink RX5 16 "EtchBathModel" "life" "[I") := ⟨List.mem_append_right _ (List.mem_append_right _ (List.mem_append_left _ (List.mem_of_getElem? (i := 224) rfl))), Or.inl (Or.inl rfl)⟩
theorem zw247 : zW (.methodLink RX5 83 yX5_isCell) := ⟨List.mem_append_right _ (List.mem_append_right _ (List.mem_append_right _ (List.mem_append_left _ (List.mem_of_getElem? (i := 74) rfl)))), Or.inl (Or.inl rfl)⟩
theorem zw248 : zW (.static yX5_isCell) := ⟨List.mem_append_right _ (List.mem_append_right _ (List.mem_append_right _ (List.mem_append_left _ (List.mem_of_getElem? (i := 75) rfl)))), Or.inl (Or.inl rfl)⟩
theorem zw249 : zW (.code yX5_isCell cX5_isCell 1 (some .boolean)) := ⟨List.mem_append_right _ (List.mem_append_right _ (List.mem_append_right _ (List.mem_append_left _ (List.mem_of_getElem? (i := 76) rfl)))), Or.inl (Or.inl rfl)⟩
theorem zw250 : zW (.methodLink RX5 87 yX5_finds) := ⟨List.mem_append_right _ (List.mem_append_right _ (List.mem_append_right _ (List.mem_append_left _ (List.mem_of_getElem? (i := 80) rfl)))), Or.inl (Or.inl rfl)⟩
theorem zw251 : zW (.instanceMethod yX5_finds) := ⟨List.mem_append_right _ (List.mem_append_right _ (List.mem_append_right _ (List.mem_append_left _ (List.mem_of_getElem? (i := 82) rfl)))), Or.inl (Or.inl rfl)⟩
theorem zw252 : zW (.selects RX5 yX5_finds yX5_finds) := ⟨List.mem_append_left _ (List.mem_of_getElem? (i := 13) rfl), Or.inl (Or.inl rfl)⟩
theorem zw253 : zW (.code yX5_finds cX5_finds 2 (some .int)) := ⟨List.mem_append_right _ (List.mem_append_right _ (List.mem_append_right _ (List.mem_append_left _ (List.mem_of_getElem? (i := 83) rfl)))), Or.inl (Or.inl rfl)⟩
theorem zw254 : zW (.methodLink RX5 91 yX5_spot) := ⟨List.mem_append_right _ (List.mem_append_right _ (List.mem_append_right _ (List.mem_append_left _ (List.mem_of_getElem? (i := 85) rfl)))), Or.inl (Or.inl rfl)⟩
theorem zw255 : zW (.static yX5_spot) := ⟨List.mem_append_right _ (List.mem_append_right _ (List.mem_append_right _ (List.mem_append_left _ (List.mem_of_getElem? (i := 86) rfl)))), Or.inl (Or.inl rfl)⟩
theorem zw256 : zW (.code yX5_spot cX5_spot 1 (some .int)) := ⟨List.mem_append_right _ (List.mem_append_right _ (List.mem_append_right _ (List.mem_append_left _ (List.mem_of_getElem? (i := 87) rfl)))), Or.inl (Or.inl rfl)⟩
theorem zw257 : zW (.methodLink RX5 94 yX5_times) := ⟨List.mem_append_right _ (List.mem_append_right _ (List.mem_append_right _ (List.mem_append_left _ (List.mem_of_getElem? (i := 92) rfl)))), Or.inl (Or.inl rfl)⟩
theorem zw258 : zW (.instanceMethod yX5_times) := ⟨List.mem_append_right _ (List.mem_append_right _ (List.mem_append_right _ (List.mem_append_left _ (List.mem_of_getElem? (i := 94) rfl)))), Or.inl (Or.inl rfl)⟩
theorem zw259 : zW (.selects RX5 yX5_times yX5_times) := ⟨List.mem_append_left _ (List.mem_of_getElem? (i := 14) rfl), Or.inl (Or.inl rfl)⟩
theorem zw260 : zW (.code yX5_times cX5_times 2 (some .int)) := ⟨List.mem_append_right _ (List.mem_append_right _ (List.mem_append_right _ (List.mem_append_left _ (List.mem_of_getElem? (i := 95) rfl)))), Or.inl (Or.inl rfl)⟩
theorem zw261 : zW (.fieldLink RX5 19 "EtchBathModel" "isStopped" "[Z") := ⟨List.mem_append_right _ (List.mem_append_right _ (List.mem_append_left _ (List.mem_of_getElem? (i := 225) rfl))), Or.inl (Or.inl rfl)⟩
theorem zw262 : zW (.methodLink RX5 97 yX5_isPlate) := ⟨List.mem_append_right _ (List.mem_append_right _ (List.mem_append_right _ (List.mem_append_left _ (List.mem_of_getElem? (i := 104) rfl)))), Or.inl (Or.inl rfl)⟩
theorem zw263 : zW (.static yX5_isPlate) := ⟨List.mem_append_right _ (List.mem_append_right _ (List.mem_append_right _ (List.mem_append_left _ (List.mem_of_getElem? (i := 105) rfl)))), Or.inl (Or.inl rfl)⟩
theorem zw264 : zW (.code yX5_isPlate cX5_isPlate 1 (some .boolean)) := ⟨List.mem_append_right _ (List.mem_append_right _ (List.mem_append_right _ (List.mem_append_left _ (List.mem_of_getElem? (i := 106) rfl)))), Or.inl (Or.inl rfl)⟩
theorem zw265 : zW (.methodLink RX5 100 yX5_bite) := ⟨List.mem_append_right _ (List.mem_append_right _ (List.mem_append_right _ (List.mem_append_left _ (List.mem_of_getElem? (i := 111) rfl)))), Or.inl (Or.inl rfl)⟩
theorem zw266 : zW (.instanceMethod yX5_bite) := ⟨List.mem_append_right _ (List.mem_append_right _ (List.mem_append_right _ (List.mem_append_left _ (List.mem_of_getElem? (i := 113) rfl)))), Or.inl (Or.inl rfl)⟩
theorem zw267 : zW (.selects RX5 yX5_bite yX5_bite) := ⟨List.mem_append_left _ (List.mem_of_getElem? (i := 15) rfl), Or.inl (Or.inl rfl)⟩
theorem zw268 : zW (.code yX5_bite cX5_bite 2 (some .int)) := ⟨List.mem_append_right _ (List.mem_append_right _ (List.mem_append_right _ (List.mem_append_left _ (List.mem_of_getElem? (i := 114) rfl)))), Or.inl (Or.inl rfl)⟩
theorem zw269 : zW (.fieldLink RX5 13 "EtchBathModel" "depth" "[I") := ⟨List.mem_append_right _ (List.mem_append_right _ (List.mem_append_left _ (List.mem_of_getElem? (i := 223) rfl))), Or.inl (Or.inl rfl)⟩
theorem zw270 : zW (.methodLink RX5 104 yX5_bites) := ⟨List.mem_append_right _ (List.mem_append_right _ (List.mem_append_right _ (List.mem_append_left _ (List.mem_of_getElem? (i := 123) rfl)))), Or.inl (Or.inl rfl)⟩
theorem zw271 : zW (.instanceMethod yX5_bites) := ⟨List.mem_append_right _ (List.mem_append_right _ (List.mem_append_right _ (List.mem_append_left _ (List.mem_of_getElem? (i := 125) rfl)))), Or.inl (Or.inl rfl)⟩
theorem zw272 : zW (.selects RX5 yX5_bites yX5_bites) := ⟨List.mem_append_left _ (List.mem_of_getElem? (i := 17) rfl), Or.inl (Or.inl rfl)⟩
theorem zw273 : zW (.code yX5_bites cX5_bites 3 none) := ⟨List.mem_append_right _ (List.mem_append_right _ (List.mem_append_right _ (List.mem_append_left _ (List.mem_of_getElem? (i := 126) rfl)))), Or.inl (Or.inl rfl)⟩
theorem zw274 : zW (.methodLink RX5 108 yX5_bathes) := ⟨List.mem_append_right _ (List.mem_append_right _ (List.mem_append_right _ (List.mem_append_left _ (List.mem_of_getElem? (i := 119) rfl)))), Or.inl (Or.inl rfl)⟩
theorem zw275 : zW (.instanceMethod yX5_bathes) := ⟨List.mem_append_right _ (List.mem_append_right _ (List.mem_append_right _ (List.mem_append_left _ (List.mem_of_getElem? (i := 121) rfl)))), Or.inl (Or.inl rfl)⟩
theorem zw276 : zW (.selects RX5 yX5_bathes yX5_bathes) := ⟨List.mem_append_left _ (List.mem_of_getElem? (i := 16) rfl), Or.inl (Or.inl rfl)⟩
theorem zw277 : zW (.code yX5_bathes cX5_bathes 5 none) := ⟨List.mem_append_right _ (List.mem_append_right _ (List.mem_append_right _ (List.mem_append_left _ (List.mem_of_getElem? (i := 122) rfl)))), Or.inl (Or.inl rfl)⟩
theorem zw278 : zW (.methodLink RX5 112 yX5_toneOf) := ⟨List.mem_append_right _ (List.mem_append_right _ (List.mem_append_right _ (List.mem_append_left _ (List.mem_of_getElem? (i := 135) rfl)))), Or.inl (Or.inl rfl)⟩
theorem zw279 : zW (.static yX5_toneOf) := ⟨List.mem_append_right _ (List.mem_append_right _ (List.mem_append_right _ (List.mem_append_left _ (List.mem_of_getElem? (i := 136) rfl)))), Or.inl (Or.inl rfl)⟩
theorem zw280 : zW (.code yX5_toneOf cX5_toneOf 1 (some .int)) := ⟨List.mem_append_right _ (List.mem_append_right _ (List.mem_append_right _ (List.mem_append_left _ (List.mem_of_getElem? (i := 137) rfl)))), Or.inl (Or.inl rfl)⟩
theorem zw281 : zW (.fieldLink RX5 115 "EtchBathModel" "begin" "I") := ⟨List.mem_append_right _ (List.mem_append_right _ (List.mem_append_right _ (List.mem_append_left _ (List.mem_of_getElem? (i := 7) rfl)))), Or.inl (Or.inl rfl)⟩
theorem zw282 : zW (.fieldLink RX5 118 "EtchBathModel" "end" "I") := ⟨List.mem_append_right _ (List.mem_append_right _ (List.mem_append_right _ (List.mem_append_left _ (List.mem_of_getElem? (i := 8) rfl)))), Or.inl (Or.inl rfl)⟩
theorem zw283 : zW (.methodLink RX5 121 yX5_looks) := ⟨List.mem_append_right _ (List.mem_append_right _ (List.mem_append_right _ (List.mem_append_left _ (List.mem_of_getElem? (i := 142) rfl)))), Or.inl (Or.inl rfl)⟩
theorem zw284 : zW (.instanceMethod yX5_looks) := ⟨List.mem_append_right _ (List.mem_append_right _ (List.mem_append_right _ (List.mem_append_left _ (List.mem_of_getElem? (i := 144) rfl)))), Or.inl (Or.inl rfl)⟩
theorem zw285 : zW (.selects RX5 yX5_looks yX5_looks) := ⟨List.mem_append_left _ (List.mem_of_getElem? (i := 18) rfl), Or.inl (Or.inl rfl)⟩
theorem zw286 : zW (.code yX5_looks cX5_looks 6 (some .boolean)) := ⟨List.mem_append_right _ (List.mem_append_right _ (List.mem_append_right _ (List.mem_append_left _ (List.mem_of_getElem? (i := 145) rfl)))), Or.inl (Or.inl rfl)⟩
theorem zw287 : zW (.fieldLink RX5 125 "EtchBathModel" "wishes" "I") := ⟨List.mem_append_right _ (List.mem_append_right _ (List.mem_append_left _ (List.mem_of_getElem? (i := 229) rfl))), Or.inl (Or.inl rfl)⟩
theorem zw288 : zW (.fieldLink RX5 33 "EtchBathModel" "wishCell" "[I") := ⟨List.mem_append_right _ (List.mem_append_right _ (List.mem_append_left _ (List.mem_of_getElem? (i := 230) rfl))), Or.inl (Or.inl rfl)⟩
theorem zw289 : zW (.fieldLink RX5 36 "EtchBathModel" "wishTone" "[I") := ⟨List.mem_append_right _ (List.mem_append_right _ (List.mem_append_left _ (List.mem_of_getElem? (i := 231) rfl))), Or.inl (Or.inl rfl)⟩
theorem zw290 : zW (.fieldLink RX5 39 "EtchBathModel" "first" "[I") := ⟨List.mem_append_right _ (List.mem_append_right _ (List.mem_append_left _ (List.mem_of_getElem? (i := 232) rfl))), Or.inl (Or.inl rfl)⟩
theorem zw291 : zW (.fieldLink RX5 42 "EtchBathModel" "last" "[I") := ⟨List.mem_append_right _ (List.mem_append_right _ (List.mem_append_left _ (List.mem_of_getElem? (i := 233) rfl))), Or.inl (Or.inl rfl)⟩
theorem zw292 : zW (.fieldLink RX5 75 "EtchBathModel" "isTried" "[Z") := ⟨List.mem_append_right _ (List.mem_append_right _ (List.mem_append_right _ (List.mem_append_left _ (List.mem_of_getElem? (i := 10) rfl)))), Or.inl (Or.inl rfl)⟩
theorem zw293 : zW (.methodLink RX5 128 yX5_fewest) := ⟨List.mem_append_right _ (List.mem_append_right _ (List.mem_append_right _ (List.mem_append_left _ (List.mem_of_getElem? (i := 162) rfl)))), Or.inl (Or.inl rfl)⟩
theorem zw294 : zW (.instanceMethod yX5_fewest) := ⟨List.mem_append_right _ (List.mem_append_right _ (List.mem_append_right _ (List.mem_append_left _ (List.mem_of_getElem? (i := 164) rfl)))), Or.inl (Or.inl rfl)⟩
theorem zw295 : zW (.selects RX5 yX5_fewest yX5_fewest) := ⟨List.mem_append_left _ (List.mem_of_getElem? (i := 20) rfl), Or.inl (Or.inl rfl)⟩
theorem zw296 : zW (.code yX5_fewest cX5_fewest 8 (some .int)) := ⟨List.mem_append_right _ (List.mem_append_right _ (List.mem_append_right _ (List.mem_append_left _ (List.mem_of_getElem? (i := 165) rfl)))), Or.inl (Or.inl rfl)⟩
theorem zw297 : zW (.fieldLink RX5 72 "EtchBathModel" "isMet" "[Z") := ⟨List.mem_append_right _ (List.mem_append_right _ (List.mem_append_right _ (List.mem_append_left _ (List.mem_of_getElem? (i := 9) rfl)))), Or.inl (Or.inl rfl)⟩
theorem zw298 : zW (.fieldLink RX5 132 "EtchBathModel" "baths" "I") := ⟨List.mem_append_right _ (List.mem_append_right _ (List.mem_append_left _ (List.mem_of_getElem? (i := 234) rfl))), Or.inl (Or.inl rfl)⟩
theorem zw299 : zW (.methodLink RX5 135 yX5_canBe) := ⟨List.mem_append_right _ (List.mem_append_right _ (List.mem_append_right _ (List.mem_append_left _ (List.mem_of_getElem? (i := 166) rfl)))), Or.inl (Or.inl rfl)⟩
theorem zw300 : zW (.instanceMethod yX5_canBe) := ⟨List.mem_append_right _ (List.mem_append_right _ (List.mem_append_right _ (List.mem_append_left _ (List.mem_of_getElem? (i := 168) rfl)))), Or.inl (Or.inl rfl)⟩
theorem zw301 : zW (.selects RX5 yX5_canBe yX5_canBe) := ⟨List.mem_append_left _ (List.mem_of_getElem? (i := 21) rfl), Or.inl (Or.inl rfl)⟩
theorem zw302 : zW (.code yX5_canBe cX5_canBe 4 (some .boolean)) := ⟨List.mem_append_right _ (List.mem_append_right _ (List.mem_append_right _ (List.mem_append_left _ (List.mem_of_getElem? (i := 169) rfl)))), Or.inl (Or.inl rfl)⟩
theorem zw303 : zW (.fieldLink RX5 45 "EtchBathModel" "minute" "[I") := ⟨List.mem_append_right _ (List.mem_append_right _ (List.mem_append_left _ (List.mem_of_getElem? (i := 235) rfl))), Or.inl (Or.inl rfl)⟩
theorem zw304 : zW (.methodLink RX5 138 yX5_plans) := ⟨List.mem_append_right _ (List.mem_append_right _ (List.mem_append_right _ (List.mem_append_left _ (List.mem_of_getElem? (i := 158) rfl)))), Or.inl (Or.inl rfl)⟩
theorem zw305 : zW (.instanceMethod yX5_plans) := ⟨List.mem_append_right _ (List.mem_append_right _ (List.mem_append_right _ (List.mem_append_left _ (List.mem_of_getElem? (i := 160) rfl)))), Or.inl (Or.inl rfl)⟩
theorem zw306 : zW (.selects RX5 yX5_plans yX5_plans) := ⟨List.mem_append_left _ (List.mem_of_getElem? (i := 19) rfl), Or.inl (Or.inl rfl)⟩
theorem zw307 : zW (.code yX5_plans cX5_plans 4 (some .boolean)) := ⟨List.mem_append_right _ (List.mem_append_right _ (List.mem_append_right _ (List.mem_append_left _ (List.mem_of_getElem? (i := 161) rfl)))), Or.inl (Or.inl rfl)⟩
theorem zw308 : zW (.fieldLink RX5 23 "EtchBathModel" "isKept" "[Z") := ⟨List.mem_append_right _ (List.mem_append_right _ (List.mem_append_left _ (List.mem_of_getElem? (i := 226) rfl))), Or.inl (Or.inl rfl)⟩
theorem zw309 : zW (.methodLink RX5 142 yX5_state) := ⟨List.mem_append_right _ (List.mem_append_right _ (List.mem_append_right _ (List.mem_append_left _ (List.mem_of_getElem? (i := 182) rfl)))), Or.inl (Or.inl rfl)⟩
theorem zw310 : zW (.static yX5_state) := ⟨List.mem_append_right _ (List.mem_append_right _ (List.mem_append_right _ (List.mem_append_left _ (List.mem_of_getElem? (i := 183) rfl)))), Or.inl (Or.inl rfl)⟩
theorem zw311 : zW (.code yX5_state cX5_state 1 (some .int)) := ⟨List.mem_append_right _ (List.mem_append_right _ (List.mem_append_right _ (List.mem_append_left _ (List.mem_of_getElem? (i := 184) rfl)))), Or.inl (Or.inl rfl)⟩
theorem zw312 : zW (.methodLink RX5 145 yX5_copies) := ⟨List.mem_append_right _ (List.mem_append_right _ (List.mem_append_right _ (List.mem_append_left _ (List.mem_of_getElem? (i := 185) rfl)))), Or.inl (Or.inl rfl)⟩
theorem zw313 : zW (.instanceMethod yX5_copies) := ⟨List.mem_append_right _ (List.mem_append_right _ (List.mem_append_right _ (List.mem_append_left _ (List.mem_of_getElem? (i := 187) rfl)))), Or.inl (Or.inl rfl)⟩
theorem zw314 : zW (.selects RX5 yX5_copies yX5_copies) := ⟨List.mem_append_left _ (List.mem_of_getElem? (i := 22) rfl), Or.inl (Or.inl rfl)⟩
theorem zw315 : zW (.code yX5_copies cX5_copies 4 none) := ⟨List.mem_append_right _ (List.mem_append_right _ (List.mem_append_right _ (List.mem_append_left _ (List.mem_of_getElem? (i := 188) rfl)))), Or.inl (Or.inl rfl)⟩
theorem zw316 : zW (.methodLink RX5 148 yX5_differ) := ⟨List.mem_append_right _ (List.mem_append_right _ (List.mem_append_right _ (List.mem_append_left _ (List.mem_of_getElem? (i := 193) rfl)))), Or.inl (Or.inl rfl)⟩
theorem zw317 : zW (.instanceMethod yX5_differ) := ⟨List.mem_append_right _ (List.mem_append_right _ (List.mem_append_right _ (List.mem_append_left _ (List.mem_of_getElem? (i := 195) rfl)))), Or.inl (Or.inl rfl)⟩
theorem zw318 : zW (.selects RX5 yX5_differ yX5_differ) := ⟨List.mem_append_left _ (List.mem_of_getElem? (i := 23) rfl), Or.inl (Or.inl rfl)⟩
theorem zw319 : zW (.code yX5_differ cX5_differ 6 (some .int)) := ⟨List.mem_append_right _ (List.mem_append_right _ (List.mem_append_right _ (List.mem_append_left _ (List.mem_of_getElem? (i := 196) rfl)))), Or.inl (Or.inl rfl)⟩
theorem zw320 : zW (.fieldLink RX5 48 "EtchBathModel" "down" "[I") := ⟨List.mem_append_right _ (List.mem_append_right _ (List.mem_append_left _ (List.mem_of_getElem? (i := 236) rfl))), Or.inl (Or.inl rfl)⟩
theorem zw321 : zW (.fieldLink RX5 51 "EtchBathModel" "right" "[I") := ⟨List.mem_append_right _ (List.mem_append_right _ (List.mem_append_left _ (List.mem_of_getElem? (i := 237) rfl))), Or.inl (Or.inl rfl)⟩
theorem zw322 : zW (.methodLink RX5 152 yX5_ink) := ⟨List.mem_append_right _ (List.mem_append_right _ (List.mem_append_right _ (List.mem_append_left _ (List.mem_of_getElem? (i := 213) rfl)))), Or.inl (Or.inl rfl)⟩
theorem zw323 : zW (.instanceMethod yX5_ink) := ⟨List.mem_append_right _ (List.mem_append_right _ (List.mem_append_right _ (List.mem_append_left _ (List.mem_of_getElem? (i := 215) rfl)))), Or.inl (Or.inl rfl)⟩
theorem zw324 : zW (.selects RX5 yX5_ink yX5_ink) := ⟨List.mem_append_left _ (List.mem_of_getElem? (i := 25) rfl), Or.inl (Or.inl rfl)⟩
theorem zw325 : zW (.code yX5_ink cX5_ink 5 (some .int)) := ⟨List.mem_append_right _ (List.mem_append_right _ (List.mem_append_right _ (List.mem_append_left _ (List.mem_of_getElem? (i := 216) rfl)))), Or.inl (Or.inl rfl)⟩
theorem zw326 : zW (.methodLink RX5 155 yX5_colourAt) := ⟨List.mem_append_right _ (List.mem_append_right _ (List.mem_append_right _ (List.mem_append_left _ (List.mem_of_getElem? (i := 209) rfl)))), Or.inl (Or.inl rfl)⟩
theorem zw327 : zW (.instanceMethod yX5_colourAt) := ⟨List.mem_append_right _ (List.mem_append_right _ (List.mem_append_right _ (List.mem_append_left _ (List.mem_of_getElem? (i := 211) rfl)))), Or.inl (Or.inl rfl)⟩
theorem zw328 : zW (.selects RX5 yX5_colourAt yX5_colourAt) := ⟨List.mem_append_left _ (List.mem_of_getElem? (i := 24) rfl), Or.inl (Or.inl rfl)⟩
theorem zw329 : zW (.code yX5_colourAt cX5_colourAt 2 (some .int)) := ⟨List.mem_append_right _ (List.mem_append_right _ (List.mem_append_right _ (List.mem_append_left _ (List.mem_of_getElem? (i := 212) rfl)))), Or.inl (Or.inl rfl)⟩
theorem zw330 : zW (.fieldLink RX5 54 "EtchBathModel" "steel" "[I") := ⟨List.mem_append_right _ (List.mem_append_right _ (List.mem_append_left _ (List.mem_of_getElem? (i := 238) rfl))), Or.inl (Or.inl rfl)⟩
theorem zw331 : zW (.fieldLink RX5 161 "EtchBathModel" "pulls" "I") := ⟨List.mem_append_right _ (List.mem_append_right _ (List.mem_append_left _ (List.mem_of_getElem? (i := 239) rfl))), Or.inl (Or.inl rfl)⟩
theorem zw332 : zW (.methodLink RX5 158 yX5_wears) := ⟨List.mem_append_right _ (List.mem_append_right _ (List.mem_append_right _ (List.mem_append_left _ (List.mem_of_getElem? (i := 225) rfl)))), Or.inl (Or.inl rfl)⟩
theorem zw333 : zW (.instanceMethod yX5_wears) := ⟨List.mem_append_right _ (List.mem_append_right _ (List.mem_append_right _ (List.mem_append_left _ (List.mem_of_getElem? (i := 227) rfl)))), Or.inl (Or.inl rfl)⟩
theorem zw334 : zW (.selects RX5 yX5_wears yX5_wears) := ⟨List.mem_append_left _ (List.mem_of_getElem? (i := 26) rfl), Or.inl (Or.inl rfl)⟩
theorem zw335 : zW (.code yX5_wears cX5_wears 3 none) := ⟨List.mem_append_right _ (List.mem_append_right _ (List.mem_append_right _ (List.mem_append_left _ (List.mem_of_getElem? (i := 228) rfl)))), Or.inl (Or.inl rfl)⟩
theorem zw336 : zW (.fieldLink RX5 164 "EtchBathModel" "guards" "I") := ⟨List.mem_append_right _ (List.mem_append_right _ (List.mem_append_right _ (List.mem_append_left _ (List.mem_of_getElem? (i := 0) rfl)))), Or.inl (Or.inl rfl)⟩
theorem zw337 : zW (.fieldLink RX5 57 "EtchBathModel" "guardCell" "[I") := ⟨List.mem_append_right _ (List.mem_append_right _ (List.mem_append_right _ (List.mem_append_left _ (List.mem_of_getElem? (i := 1) rfl)))), Or.inl (Or.inl rfl)⟩
theorem zw338 : zW (.fieldLink RX5 60 "EtchBathModel" "guardLow" "[I") := ⟨List.mem_append_right _ (List.mem_append_right _ (List.mem_append_right _ (List.mem_append_left _ (List.mem_of_getElem? (i := 2) rfl)))), Or.inl (Or.inl rfl)⟩
theorem zw339 : zW (.fieldLink RX5 63 "EtchBathModel" "guardHigh" "[I") := ⟨List.mem_append_right _ (List.mem_append_right _ (List.mem_append_right _ (List.mem_append_left _ (List.mem_of_getElem? (i := 3) rfl)))), Or.inl (Or.inl rfl)⟩
theorem zw340 : zW (.methodLink RX5 167 yX5_allHold) := ⟨List.mem_append_right _ (List.mem_append_right _ (List.mem_append_right _ (List.mem_append_left _ (List.mem_of_getElem? (i := 237) rfl)))), Or.inl (Or.inl rfl)⟩
theorem zw341 : zW (.instanceMethod yX5_allHold) := ⟨List.mem_append_right _ (List.mem_append_right _ (List.mem_append_right _ (List.mem_append_left _ (List.mem_of_getElem? (i := 239) rfl)))), Or.inl (Or.inl rfl)⟩
theorem zw342 : zW (.selects RX5 yX5_allHold yX5_allHold) := ⟨List.mem_append_left _ (List.mem_of_getElem? (i := 27) rfl), Or.inl (Or.inl rfl)⟩
theorem zw343 : zW (.code yX5_allHold cX5_allHold 3 (some .boolean)) := ⟨List.mem_append_right _ (List.mem_append_right _ (List.mem_append_right _ (List.mem_append_right _ (List.mem_of_getElem? (i := 0) rfl)))), Or.inl (Or.inl rfl)⟩
theorem zw344 : zW (.fieldLink RX5 170 "EtchBathModel" "waiting" "I") := ⟨List.mem_append_right _ (List.mem_append_right _ (List.mem_append_right _ (List.mem_append_left _ (List.mem_of_getElem? (i := 4) rfl)))), Or.inl (Or.inl rfl)⟩
theorem zw345 : zW (.fieldLink RX5 66 "EtchBathModel" "told" "[I") := ⟨List.mem_append_right _ (List.mem_append_right _ (List.mem_append_right _ (List.mem_append_left _ (List.mem_of_getElem? (i := 5) rfl)))), Or.inl (Or.inl rfl)⟩
theorem zw346 : zW (.methodLink RX0 3 objectInit) := ⟨List.mem_append_right _ (List.mem_append_left _ (List.mem_of_getElem? (i := 104) rfl)), Or.inl (Or.inl rfl)⟩
theorem zw347 : zW (.instanceMethod objectInit) := ⟨List.mem_append_right _ (List.mem_append_left _ (List.mem_of_getElem? (i := 14) rfl)), Or.inl (Or.inl rfl)⟩
theorem zw348 : zW (.code objectInit ⟨#[0xb1]⟩ 1 none) := ⟨List.mem_append_right _ (List.mem_append_left _ (List.mem_of_getElem? (i := 15) rfl)), Or.inl (Or.inl rfl)⟩
theorem zw349 : zW (.arrayClass .int) := ⟨List.mem_append_right _ (List.mem_append_left _ (List.mem_of_getElem? (i := 42) rfl)), Or.inl (Or.inr ⟨_, rfl⟩)⟩
theorem zw350 : zW (.methodLink RX1 3 objectInit) := ⟨List.mem_append_right _ (List.mem_append_left _ (List.mem_of_getElem? (i := 21) rfl)), Or.inl (Or.inl rfl)⟩
theorem zw351 : zW (.arrayClass .boolean) := ⟨List.mem_append_right _ (List.mem_append_left _ (List.mem_of_getElem? (i := 43) rfl)), Or.inl (Or.inr ⟨_, rfl⟩)⟩
theorem zw352 : zW (.methodLink RX2 3 objectInit) := ⟨List.mem_append_right _ (List.mem_append_left _ (List.mem_of_getElem? (i := 81) rfl)), Or.inl (Or.inl rfl)⟩
theorem zw353 : zW (.methodLink RX3 3 objectInit) := ⟨List.mem_append_right _ (List.mem_append_left _ (List.mem_of_getElem? (i := 50) rfl)), Or.inl (Or.inl rfl)⟩
theorem zw354 : zW (.methodLink RX4 3 objectInit) := ⟨List.mem_append_right _ (List.mem_append_left _ (List.mem_of_getElem? (i := 13) rfl)), Or.inl (Or.inl rfl)⟩
theorem zw355 : zW (.classLink RX4 9 RX1) := ⟨List.mem_append_right _ (List.mem_append_left _ (List.mem_of_getElem? (i := 16) rfl)), Or.inl (Or.inl rfl)⟩
theorem zw356 : zW (.instantiable RX1 4) := ⟨List.mem_append_right _ (List.mem_append_left _ (List.mem_of_getElem? (i := 17) rfl)), Or.inl (Or.inl rfl)⟩
theorem zw357 : zW (.methodLinkNest RX4 11 yX1_init "EtchBath") := ⟨List.mem_append_right _ (List.mem_append_left _ (List.mem_of_getElem? (i := 18) rfl)), Or.inr (Or.inr (Or.inl ⟨_, _, _, _, rfl⟩))⟩
theorem zw358 : zW (.instanceMethod yX1_init) := ⟨List.mem_append_right _ (List.mem_append_left _ (List.mem_of_getElem? (i := 19) rfl)), Or.inl (Or.inl rfl)⟩
theorem zw359 : zW (.code yX1_init cX1_init 1 none) := ⟨List.mem_append_right _ (List.mem_append_left _ (List.mem_of_getElem? (i := 20) rfl)), Or.inl (Or.inl rfl)⟩
theorem zw360 : zW (.arrayOver (.object RX1)) := ⟨List.mem_append_right _ (List.mem_append_left _ (List.mem_of_getElem? (i := 44) rfl)), Or.inr (Or.inr (Or.inr ⟨_, rfl⟩))⟩
theorem zw361 : zW (.classLink RX4 20 RX3) := ⟨List.mem_append_right _ (List.mem_append_left _ (List.mem_of_getElem? (i := 45) rfl)), Or.inl (Or.inl rfl)⟩
theorem zw362 : zW (.instantiable RX3 7) := ⟨List.mem_append_right _ (List.mem_append_left _ (List.mem_of_getElem? (i := 46) rfl)), Or.inl (Or.inl rfl)⟩
theorem zw363 : zW (.methodLinkNest RX4 22 yX3_init "EtchBath") := ⟨List.mem_append_right _ (List.mem_append_left _ (List.mem_of_getElem? (i := 47) rfl)), Or.inr (Or.inr (Or.inl ⟨_, _, _, _, rfl⟩))⟩
theorem zw364 : zW (.instanceMethod yX3_init) := ⟨List.mem_append_right _ (List.mem_append_left _ (List.mem_of_getElem? (i := 48) rfl)), Or.inl (Or.inl rfl)⟩
theorem zw365 : zW (.code yX3_init cX3_init 1 none) := ⟨List.mem_append_right _ (List.mem_append_left _ (List.mem_of_getElem? (i := 49) rfl)), Or.inl (Or.inl rfl)⟩
theorem zw366 : zW (.classLink RX4 27 RX2) := ⟨List.mem_append_right _ (List.mem_append_left _ (List.mem_of_getElem? (i := 76) rfl)), Or.inl (Or.inl rfl)⟩
theorem zw367 : zW (.instantiable RX2 4) := ⟨List.mem_append_right _ (List.mem_append_left _ (List.mem_of_getElem? (i := 77) rfl)), Or.inl (Or.inl rfl)⟩
theorem zw368 : zW (.methodLinkNest RX4 29 yX2_init "EtchBath") := ⟨List.mem_append_right _ (List.mem_append_left _ (List.mem_of_getElem? (i := 78) rfl)), Or.inr (Or.inr (Or.inl ⟨_, _, _, _, rfl⟩))⟩
theorem zw369 : zW (.instanceMethod yX2_init) := ⟨List.mem_append_right _ (List.mem_append_left _ (List.mem_of_getElem? (i := 79) rfl)), Or.inl (Or.inl rfl)⟩
theorem zw370 : zW (.code yX2_init cX2_init 1 none) := ⟨List.mem_append_right _ (List.mem_append_left _ (List.mem_of_getElem? (i := 80) rfl)), Or.inl (Or.inl rfl)⟩
theorem zw371 : zW (.classLink RX4 34 RX0) := ⟨List.mem_append_right _ (List.mem_append_left _ (List.mem_of_getElem? (i := 99) rfl)), Or.inl (Or.inl rfl)⟩
theorem zw372 : zW (.instantiable RX0 4) := ⟨List.mem_append_right _ (List.mem_append_left _ (List.mem_of_getElem? (i := 100) rfl)), Or.inl (Or.inl rfl)⟩
theorem zw373 : zW (.methodLinkNest RX4 36 yX0_init "EtchBath") := ⟨List.mem_append_right _ (List.mem_append_left _ (List.mem_of_getElem? (i := 101) rfl)), Or.inr (Or.inr (Or.inl ⟨_, _, _, _, rfl⟩))⟩
theorem zw374 : zW (.instanceMethod yX0_init) := ⟨List.mem_append_right _ (List.mem_append_left _ (List.mem_of_getElem? (i := 102) rfl)), Or.inl (Or.inl rfl)⟩
theorem zw375 : zW (.code yX0_init cX0_init 1 none) := ⟨List.mem_append_right _ (List.mem_append_left _ (List.mem_of_getElem? (i := 103) rfl)), Or.inl (Or.inl rfl)⟩
theorem zw376 : zW (.methodLink RX5 1 objectInit) := ⟨List.mem_append_right _ (List.mem_append_right _ (List.mem_append_left _ (List.mem_of_getElem? (i := 221) rfl))), Or.inl (Or.inl rfl)⟩
theorem zw377 : zW (.methodLink RX4 160 yX4_isState) := ⟨List.mem_append_right _ (List.mem_append_right _ (List.mem_append_left _ (List.mem_of_getElem? (i := 105) rfl))), Or.inl (Or.inl rfl)⟩
theorem zw378 : zW (.static yX4_isState) := ⟨List.mem_append_right _ (List.mem_append_right _ (List.mem_append_left _ (List.mem_of_getElem? (i := 106) rfl))), Or.inl (Or.inl rfl)⟩
theorem zw379 : zW (.code yX4_isState cX4_isState 1 (some .boolean)) := ⟨List.mem_append_right _ (List.mem_append_right _ (List.mem_append_left _ (List.mem_of_getElem? (i := 107) rfl))), Or.inl (Or.inl rfl)⟩
theorem zw380 : zW (.methodLink RX4 166 yX1_differences) := ⟨List.mem_append_right _ (List.mem_append_right _ (List.mem_append_left _ (List.mem_of_getElem? (i := 116) rfl))), Or.inl (Or.inl rfl)⟩
theorem zw381 : zW (.instanceMethod yX1_differences) := ⟨List.mem_append_right _ (List.mem_append_right _ (List.mem_append_left _ (List.mem_of_getElem? (i := 117) rfl))), Or.inl (Or.inl rfl)⟩
theorem zw382 : zW (.selects RX1 yX1_differences yX1_differences) := ⟨List.mem_append_right _ (List.mem_append_right _ (List.mem_append_left _ (List.mem_of_getElem? (i := 118) rfl))), Or.inl (Or.inl rfl)⟩
theorem zw383 : zW (.code yX1_differences cX1_differences 5 (some .int)) := ⟨List.mem_append_right _ (List.mem_append_right _ (List.mem_append_left _ (List.mem_of_getElem? (i := 119) rfl))), Or.inl (Or.inl rfl)⟩
theorem zw384 : zW (.methodLink RX4 163 yX1_copyPlate) := ⟨List.mem_append_right _ (List.mem_append_right _ (List.mem_append_left _ (List.mem_of_getElem? (i := 108) rfl))), Or.inl (Or.inl rfl)⟩
theorem zw385 : zW (.instanceMethod yX1_copyPlate) := ⟨List.mem_append_right _ (List.mem_append_right _ (List.mem_append_left _ (List.mem_of_getElem? (i := 109) rfl))), Or.inl (Or.inl rfl)⟩
theorem zw386 : zW (.selects RX1 yX1_copyPlate yX1_copyPlate) := ⟨List.mem_append_right _ (List.mem_append_right _ (List.mem_append_left _ (List.mem_of_getElem? (i := 110) rfl))), Or.inl (Or.inl rfl)⟩
theorem zw387 : zW (.code yX1_copyPlate cX1_copyPlate 4 none) := ⟨List.mem_append_right _ (List.mem_append_right _ (List.mem_append_left _ (List.mem_of_getElem? (i := 111) rfl))), Or.inl (Or.inl rfl)⟩
theorem zl_X0_0 : zW (u_lay RX0 TX0 0) := ⟨List.mem_append_right _ (List.mem_append_left _ (List.mem_of_getElem? (i := 110) rfl)), Or.inl (Or.inl rfl)⟩
theorem zl_X0_1 : zW (u_lay RX0 TX0 1) := ⟨List.mem_append_right _ (List.mem_append_left _ (List.mem_of_getElem? (i := 112) rfl)), Or.inl (Or.inl rfl)⟩
theorem zl_X0_2 : zW (u_lay RX0 TX0 2) := ⟨List.mem_append_right _ (List.mem_append_left _ (List.mem_of_getElem? (i := 114) rfl)), Or.inl (Or.inl rfl)⟩
theorem zl_X0_3 : zW (u_lay RX0 TX0 3) := ⟨List.mem_append_right _ (List.mem_append_left _ (List.mem_of_getElem? (i := 116) rfl)), Or.inl (Or.inl rfl)⟩
theorem zl_X0 : ∀ w ∈ u_ws RX0 TX0 4, zW w := by
  intro w hw
  obtain ⟨k, hk, rfl⟩ := List.mem_map.mp hw
  have hk := List.mem_range.mp hk
  match k, hk with
  | 0, _ => exact zl_X0_0
  | 1, _ => exact zl_X0_1
  | 2, _ => exact zl_X0_2
  | 3, _ => exact zl_X0_3
  | k + 4, hk => exact absurd hk (by omega)
theorem zl_X1_0 : zW (u_lay RX1 TX1 0) := ⟨List.mem_append_right _ (List.mem_append_left _ (List.mem_of_getElem? (i := 33) rfl)), Or.inl (Or.inl rfl)⟩
theorem zl_X1_1 : zW (u_lay RX1 TX1 1) := ⟨List.mem_append_right _ (List.mem_append_left _ (List.mem_of_getElem? (i := 35) rfl)), Or.inl (Or.inl rfl)⟩
theorem zl_X1_2 : zW (u_lay RX1 TX1 2) := ⟨List.mem_append_right _ (List.mem_append_left _ (List.mem_of_getElem? (i := 37) rfl)), Or.inl (Or.inl rfl)⟩
theorem zl_X1_3 : zW (u_lay RX1 TX1 3) := ⟨List.mem_append_right _ (List.mem_append_left _ (List.mem_of_getElem? (i := 39) rfl)), Or.inl (Or.inl rfl)⟩
theorem zl_X1 : ∀ w ∈ u_ws RX1 TX1 4, zW w := by
  intro w hw
  obtain ⟨k, hk, rfl⟩ := List.mem_map.mp hw
  have hk := List.mem_range.mp hk
  match k, hk with
  | 0, _ => exact zl_X1_0
  | 1, _ => exact zl_X1_1
  | 2, _ => exact zl_X1_2
  | 3, _ => exact zl_X1_3
  | k + 4, hk => exact absurd hk (by omega)
theorem zl_X2_0 : zW (u_lay RX2 TX2 0) := ⟨List.mem_append_right _ (List.mem_append_left _ (List.mem_of_getElem? (i := 90) rfl)), Or.inl (Or.inl rfl)⟩
theorem zl_X2_1 : zW (u_lay RX2 TX2 1) := ⟨List.mem_append_right _ (List.mem_append_left _ (List.mem_of_getElem? (i := 92) rfl)), Or.inl (Or.inl rfl)⟩
theorem zl_X2_2 : zW (u_lay RX2 TX2 2) := ⟨List.mem_append_right _ (List.mem_append_left _ (List.mem_of_getElem? (i := 94) rfl)), Or.inl (Or.inl rfl)⟩
theorem zl_X2_3 : zW (u_lay RX2 TX2 3) := ⟨List.mem_append_right _ (List.mem_append_left _ (List.mem_of_getElem? (i := 96) rfl)), Or.inl (Or.inl rfl)⟩
theorem zl_X2 : ∀ w ∈ u_ws RX2 TX2 4, zW w := by
  intro w hw
  obtain ⟨k, hk, rfl⟩ := List.mem_map.mp hw
  have hk := List.mem_range.mp hk
  match k, hk with
  | 0, _ => exact zl_X2_0
  | 1, _ => exact zl_X2_1
  | 2, _ => exact zl_X2_2
  | 3, _ => exact zl_X2_3
  | k + 4, hk => exact absurd hk (by omega)
theorem zl_X3_0 : zW (u_lay RX3 TX3 0) := ⟨List.mem_append_right _ (List.mem_append_left _ (List.mem_of_getElem? (i := 61) rfl)), Or.inl (Or.inl rfl)⟩
theorem zl_X3_1 : zW (u_lay RX3 TX3 1) := ⟨List.mem_append_right _ (List.mem_append_left _ (List.mem_of_getElem? (i := 63) rfl)), Or.inl (Or.inl rfl)⟩
theorem zl_X3_2 : zW (u_lay RX3 TX3 2) := ⟨List.mem_append_right _ (List.mem_append_left _ (List.mem_of_getElem? (i := 65) rfl)), Or.inl (Or.inl rfl)⟩
theorem zl_X3_3 : zW (u_lay RX3 TX3 3) := ⟨List.mem_append_right _ (List.mem_append_left _ (List.mem_of_getElem? (i := 67) rfl)), Or.inl (Or.inl rfl)⟩
theorem zl_X3_4 : zW (u_lay RX3 TX3 4) := ⟨List.mem_append_right _ (List.mem_append_left _ (List.mem_of_getElem? (i := 69) rfl)), Or.inl (Or.inl rfl)⟩
theorem zl_X3_5 : zW (u_lay RX3 TX3 5) := ⟨List.mem_append_right _ (List.mem_append_left _ (List.mem_of_getElem? (i := 71) rfl)), Or.inl (Or.inl rfl)⟩
theorem zl_X3_6 : zW (u_lay RX3 TX3 6) := ⟨List.mem_append_right _ (List.mem_append_left _ (List.mem_of_getElem? (i := 73) rfl)), Or.inl (Or.inl rfl)⟩
theorem zl_X3 : ∀ w ∈ u_ws RX3 TX3 7, zW w := by
  intro w hw
  obtain ⟨k, hk, rfl⟩ := List.mem_map.mp hw
  have hk := List.mem_range.mp hk
  match k, hk with
  | 0, _ => exact zl_X3_0
  | 1, _ => exact zl_X3_1
  | 2, _ => exact zl_X3_2
  | 3, _ => exact zl_X3_3
  | 4, _ => exact zl_X3_4
  | 5, _ => exact zl_X3_5
  | 6, _ => exact zl_X3_6
  | k + 7, hk => exact absurd hk (by omega)
theorem zl_X4_0 : zW (u_lay RX4 TX4 0) := ⟨List.mem_append_right _ (List.mem_append_left _ (List.mem_of_getElem? (i := 129) rfl)), Or.inl (Or.inl rfl)⟩
theorem zl_X4_1 : zW (u_lay RX4 TX4 1) := ⟨List.mem_append_right _ (List.mem_append_left _ (List.mem_of_getElem? (i := 131) rfl)), Or.inl (Or.inl rfl)⟩
theorem zl_X4_2 : zW (u_lay RX4 TX4 2) := ⟨List.mem_append_right _ (List.mem_append_left _ (List.mem_of_getElem? (i := 133) rfl)), Or.inl (Or.inl rfl)⟩
theorem zl_X4_3 : zW (u_lay RX4 TX4 3) := ⟨List.mem_append_right _ (List.mem_append_left _ (List.mem_of_getElem? (i := 135) rfl)), Or.inl (Or.inl rfl)⟩
theorem zl_X4_4 : zW (u_lay RX4 TX4 4) := ⟨List.mem_append_right _ (List.mem_append_left _ (List.mem_of_getElem? (i := 137) rfl)), Or.inl (Or.inl rfl)⟩
theorem zl_X4_5 : zW (u_lay RX4 TX4 5) := ⟨List.mem_append_right _ (List.mem_append_left _ (List.mem_of_getElem? (i := 139) rfl)), Or.inl (Or.inl rfl)⟩
theorem zl_X4_6 : zW (u_lay RX4 TX4 6) := ⟨List.mem_append_right _ (List.mem_append_left _ (List.mem_of_getElem? (i := 141) rfl)), Or.inl (Or.inl rfl)⟩
theorem zl_X4_7 : zW (u_lay RX4 TX4 7) := ⟨List.mem_append_right _ (List.mem_append_left _ (List.mem_of_getElem? (i := 143) rfl)), Or.inl (Or.inl rfl)⟩
theorem zl_X4_8 : zW (u_lay RX4 TX4 8) := ⟨List.mem_append_right _ (List.mem_append_left _ (List.mem_of_getElem? (i := 145) rfl)), Or.inl (Or.inl rfl)⟩
theorem zl_X4_9 : zW (u_lay RX4 TX4 9) := ⟨List.mem_append_right _ (List.mem_append_left _ (List.mem_of_getElem? (i := 147) rfl)), Or.inl (Or.inl rfl)⟩
theorem zl_X4 : ∀ w ∈ u_ws RX4 TX4 10, zW w := by
  intro w hw
  obtain ⟨k, hk, rfl⟩ := List.mem_map.mp hw
  have hk := List.mem_range.mp hk
  match k, hk with
  | 0, _ => exact zl_X4_0
  | 1, _ => exact zl_X4_1
  | 2, _ => exact zl_X4_2
  | 3, _ => exact zl_X4_3
  | 4, _ => exact zl_X4_4
  | 5, _ => exact zl_X4_5
  | 6, _ => exact zl_X4_6
  | 7, _ => exact zl_X4_7
  | 8, _ => exact zl_X4_8
  | 9, _ => exact zl_X4_9
  | k + 10, hk => exact absurd hk (by omega)
theorem zl_X5_0 : zW (u_lay RX5 TX5 0) := ⟨List.mem_append_right _ (List.mem_append_right _ (List.mem_append_right _ (List.mem_append_left _ (List.mem_of_getElem? (i := 11) rfl)))), Or.inl (Or.inl rfl)⟩
theorem zl_X5_1 : zW (u_lay RX5 TX5 1) := ⟨List.mem_append_right _ (List.mem_append_right _ (List.mem_append_right _ (List.mem_append_left _ (List.mem_of_getElem? (i := 13) rfl)))), Or.inl (Or.inl rfl)⟩
theorem zl_X5_2 : zW (u_lay RX5 TX5 2) := ⟨List.mem_append_right _ (List.mem_append_right _ (List.mem_append_right _ (List.mem_append_left _ (List.mem_of_getElem? (i := 15) rfl)))), Or.inl (Or.inl rfl)⟩
theorem zl_X5_3 : zW (u_lay RX5 TX5 3) := ⟨List.mem_append_right _ (List.mem_append_right _ (List.mem_append_right _ (List.mem_append_left _ (List.mem_of_getElem? (i := 17) rfl)))), Or.inl (Or.inl rfl)⟩
theorem zl_X5_4 : zW (u_lay RX5 TX5 4) := ⟨List.mem_append_right _ (List.mem_append_right _ (List.mem_append_right _ (List.mem_append_left _ (List.mem_of_getElem? (i := 19) rfl)))), Or.inl (Or.inl rfl)⟩
theorem zl_X5_5 : zW (u_lay RX5 TX5 5) := ⟨List.mem_append_right _ (List.mem_append_right _ (List.mem_append_right _ (List.mem_append_left _ (List.mem_of_getElem? (i := 21) rfl)))), Or.inl (Or.inl rfl)⟩
theorem zl_X5_6 : zW (u_lay RX5 TX5 6) := ⟨List.mem_append_right _ (List.mem_append_right _ (List.mem_append_right _ (List.mem_append_left _ (List.mem_of_getElem? (i := 23) rfl)))), Or.inl (Or.inl rfl)⟩
theorem zl_X5_7 : zW (u_lay RX5 TX5 7) := ⟨List.mem_append_right _ (List.mem_append_right _ (List.mem_append_right _ (List.mem_append_left _ (List.mem_of_getElem? (i := 25) rfl)))), Or.inl (Or.inl rfl)⟩
theorem zl_X5_8 : zW (u_lay RX5 TX5 8) := ⟨List.mem_append_right _ (List.mem_append_right _ (List.mem_append_right _ (List.mem_append_left _ (List.mem_of_getElem? (i := 27) rfl)))), Or.inl (Or.inl rfl)⟩
theorem zl_X5_9 : zW (u_lay RX5 TX5 9) := ⟨List.mem_append_right _ (List.mem_append_right _ (List.mem_append_right _ (List.mem_append_left _ (List.mem_of_getElem? (i := 29) rfl)))), Or.inl (Or.inl rfl)⟩
theorem zl_X5_10 : zW (u_lay RX5 TX5 10) := ⟨List.mem_append_right _ (List.mem_append_right _ (List.mem_append_right _ (List.mem_append_left _ (List.mem_of_getElem? (i := 31) rfl)))), Or.inl (Or.inl rfl)⟩
theorem zl_X5_11 : zW (u_lay RX5 TX5 11) := ⟨List.mem_append_right _ (List.mem_append_right _ (List.mem_append_right _ (List.mem_append_left _ (List.mem_of_getElem? (i := 33) rfl)))), Or.inl (Or.inl rfl)⟩
theorem zl_X5_12 : zW (u_lay RX5 TX5 12) := ⟨List.mem_append_right _ (List.mem_append_right _ (List.mem_append_right _ (List.mem_append_left _ (List.mem_of_getElem? (i := 35) rfl)))), Or.inl (Or.inl rfl)⟩
theorem zl_X5_13 : zW (u_lay RX5 TX5 13) := ⟨List.mem_append_right _ (List.mem_append_right _ (List.mem_append_right _ (List.mem_append_left _ (List.mem_of_getElem? (i := 37) rfl)))), Or.inl (Or.inl rfl)⟩
theorem zl_X5_14 : zW (u_lay RX5 TX5 14) := ⟨List.mem_append_right _ (List.mem_append_right _ (List.mem_append_right _ (List.mem_append_left _ (List.mem_of_getElem? (i := 39) rfl)))), Or.inl (Or.inl rfl)⟩
theorem zl_X5_15 : zW (u_lay RX5 TX5 15) := ⟨List.mem_append_right _ (List.mem_append_right _ (List.mem_append_right _ (List.mem_append_left _ (List.mem_of_getElem? (i := 41) rfl)))), Or.inl (Or.inl rfl)⟩
theorem zl_X5_16 : zW (u_lay RX5 TX5 16) := ⟨List.mem_append_right _ (List.mem_append_right _ (List.mem_append_right _ (List.mem_append_left _ (List.mem_of_getElem? (i := 43) rfl)))), Or.inl (Or.inl rfl)⟩
theorem zl_X5_17 : zW (u_lay RX5 TX5 17) := ⟨List.mem_append_right _ (List.mem_append_right _ (List.mem_append_right _ (List.mem_append_left _ (List.mem_of_getElem? (i := 45) rfl)))), Or.inl (Or.inl rfl)⟩
theorem zl_X5_18 : zW (u_lay RX5 TX5 18) := ⟨List.mem_append_right _ (List.mem_append_right _ (List.mem_append_right _ (List.mem_append_left _ (List.mem_of_getElem? (i := 47) rfl)))), Or.inl (Or.inl rfl)⟩
theorem zl_X5_19 : zW (u_lay RX5 TX5 19) := ⟨List.mem_append_right _ (List.mem_append_right _ (List.mem_append_right _ (List.mem_append_left _ (List.mem_of_getElem? (i := 49) rfl)))), Or.inl (Or.inl rfl)⟩
theorem zl_X5_20 : zW (u_lay RX5 TX5 20) := ⟨List.mem_append_right _ (List.mem_append_right _ (List.mem_append_right _ (List.mem_append_left _ (List.mem_of_getElem? (i := 51) rfl)))), Or.inl (Or.inl rfl)⟩
theorem zl_X5_21 : zW (u_lay RX5 TX5 21) := ⟨List.mem_append_right _ (List.mem_append_right _ (List.mem_append_right _ (List.mem_append_left _ (List.mem_of_getElem? (i := 53) rfl)))), Or.inl (Or.inl rfl)⟩
theorem zl_X5_22 : zW (u_lay RX5 TX5 22) := ⟨List.mem_append_right _ (List.mem_append_right _ (List.mem_append_right _ (List.mem_append_left _ (List.mem_of_getElem? (i := 55) rfl)))), Or.inl (Or.inl rfl)⟩
theorem zl_X5_23 : zW (u_lay RX5 TX5 23) := ⟨List.mem_append_right _ (List.mem_append_right _ (List.mem_append_right _ (List.mem_append_left _ (List.mem_of_getElem? (i := 57) rfl)))), Or.inl (Or.inl rfl)⟩
theorem zl_X5_24 : zW (u_lay RX5 TX5 24) := ⟨List.mem_append_right _ (List.mem_append_right _ (List.mem_append_right _ (List.mem_append_left _ (List.mem_of_getElem? (i := 59) rfl)))), Or.inl (Or.inl rfl)⟩
theorem zl_X5_25 : zW (u_lay RX5 TX5 25) := ⟨List.mem_append_right _ (List.mem_append_right _ (List.mem_append_right _ (List.mem_append_left _ (List.mem_of_getElem? (i := 61) rfl)))), Or.inl (Or.inl rfl)⟩
theorem zl_X5_26 : zW (u_lay RX5 TX5 26) := ⟨List.mem_append_right _ (List.mem_append_right _ (List.mem_append_right _ (List.mem_append_left _ (List.mem_of_getElem? (i := 63) rfl)))), Or.inl (Or.inl rfl)⟩
theorem zl_X5_27 : zW (u_lay RX5 TX5 27) := ⟨List.mem_append_right _ (List.mem_append_right _ (List.mem_append_right _ (List.mem_append_left _ (List.mem_of_getElem? (i := 65) rfl)))), Or.inl (Or.inl rfl)⟩
theorem zl_X5_28 : zW (u_lay RX5 TX5 28) := ⟨List.mem_append_right _ (List.mem_append_right _ (List.mem_append_right _ (List.mem_append_left _ (List.mem_of_getElem? (i := 67) rfl)))), Or.inl (Or.inl rfl)⟩
theorem zl_X5 : ∀ w ∈ u_ws RX5 TX5 29, zW w := by
  intro w hw
  obtain ⟨k, hk, rfl⟩ := List.mem_map.mp hw
  have hk := List.mem_range.mp hk
  match k, hk with
  | 0, _ => exact zl_X5_0
  | 1, _ => exact zl_X5_1
  | 2, _ => exact zl_X5_2
  | 3, _ => exact zl_X5_3
  | 4, _ => exact zl_X5_4
  | 5, _ => exact zl_X5_5
  | 6, _ => exact zl_X5_6
  | 7, _ => exact zl_X5_7
  | 8, _ => exact zl_X5_8
  | 9, _ => exact zl_X5_9
  | 10, _ => exact zl_X5_10
  | 11, _ => exact zl_X5_11
  | 12, _ => exact zl_X5_12
  | 13, _ => exact zl_X5_13
  | 14, _ => exact zl_X5_14
  | 15, _ => exact zl_X5_15
  | 16, _ => exact zl_X5_16
  | 17, _ => exact zl_X5_17
  | 18, _ => exact zl_X5_18
  | 19, _ => exact zl_X5_19
  | 20, _ => exact zl_X5_20
  | 21, _ => exact zl_X5_21
  | 22, _ => exact zl_X5_22
  | 23, _ => exact zl_X5_23
  | 24, _ => exact zl_X5_24
  | 25, _ => exact zl_X5_25
  | 26, _ => exact zl_X5_26
  | 27, _ => exact zl_X5_27
  | 28, _ => exact zl_X5_28
  | k + 29, hk => exact absurd hk (by omega)
