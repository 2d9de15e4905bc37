theorem zw606 : zW (.classLink RL 7 RX4) := ⟨List.mem_append_right _ (List.mem_append_left _ (List.mem_of_getElem? (i := 8) rfl)), Or.inl (Or.inl rfl)⟩
theorem zw607 : zW (.methodLink RL 9 yX4_init) := ⟨List.mem_append_right _ (List.mem_append_left _ (List.mem_of_getElem? (i := 10) rfl)), Or.inl (Or.inl rfl)⟩
theorem zw608 : zW (.instanceMethod yX4_init) := ⟨List.mem_append_right _ (List.mem_append_left _ (List.mem_of_getElem? (i := 11) rfl)), Or.inl (Or.inl rfl)⟩
theorem zw609 : zW (.code yX4_init cX4_init 1 none) := ⟨List.mem_append_right _ (List.mem_append_left _ (List.mem_of_getElem? (i := 12) rfl)), Or.inl (Or.inl rfl)⟩
theorem zw610 : zW (.classLink RL 10 RX5) := ⟨List.mem_append_right _ (List.mem_append_right _ (List.mem_append_left _ (List.mem_of_getElem? (i := 216) rfl))), Or.inl (Or.inl rfl)⟩
theorem zw611 : zW (.methodLink RL 12 yX5_init) := ⟨List.mem_append_right _ (List.mem_append_right _ (List.mem_append_left _ (List.mem_of_getElem? (i := 218) rfl))), Or.inl (Or.inl rfl)⟩
theorem zw612 : zW (.instanceMethod yX5_init) := ⟨List.mem_append_right _ (List.mem_append_right _ (List.mem_append_left _ (List.mem_of_getElem? (i := 219) rfl))), Or.inl (Or.inl rfl)⟩
theorem zw613 : zW (.code yX5_init cX5_init 1 none) := ⟨List.mem_append_right _ (List.mem_append_right _ (List.mem_append_left _ (List.mem_of_getElem? (i := 220) rfl))), Or.inl (Or.inl rfl)⟩
set_option maxHeartbeats 4000000 in
set_option maxRecDepth 100000 in
theorem law_loop {p : Program} {l : Launch} {e : Env} {s : State} {m : MethodId} {below : List Frame} {meth : Method} {c : Code} {b L : Nat} {xs : Nat → Int32} {E : zE} (hL : L ≤ 2048) (C0 : lw_At p s m meth c b L xs) (hK : zK E s) : ∀ (f i k n : Nat) (H : Heap) (locs : List Loc) (ls : Array Slot), i ≤ L → L + 4 ≤ i + 4 * f → k + 5 * f ≤ 600000 → n + 436 * f ≤ 7302250 → LI E s b i H locs ls → W p l e room_1 s m #[Value.ref b] below meth c H locs k n (lw_Z below #[Value.ref b] s) (F0 m 18 ls []) := by
  have C1 := C0
  obtain ⟨hx, hb, hr, hml, hown, hts, hX, hbl, hlocks, hgv⟩ := C1
  have hb : c.code = cL_law := hb
  have hbA : ¬ (fun q : Nat => s.heap.size ≤ q) b := Nat.not_le.mpr hbl
  intro f
  induction f with
  | zero =>
    intro i k n H locs ls h1 h2
    exact absurd h2 (by omega)
  | succ f ih =>
    intro i k n H locs ls h1 h2 h3 h4 hI
    have J : ∀ (H1 : Heap) (locs1 : List Loc) (ls1 : Array Slot) (k1 n1 : Nat), i + 4 ≤ L → k1 ≤ k + 5 → n1 ≤ n + 436 → LI E s b i H1 locs1 ls1 → W p l e room_1 s m #[Value.ref b] below meth c H1 locs1 k1 n1 (lw_Z below #[Value.ref b] s) (F0 m 923 ls1 []) := by
      intro H locs ls k1 n1 hi4 hk1 hn1 hI
      obtain ⟨ac, am, aa, sf, T, x_waiting, x_strength, x_heat, x_plates_kinds, x_plates_depths, x_plates_lives, x_plates_stops, x_wishes_size, x_wishes_planned, x_wishes_spots, x_wishes_tones, x_wishes_firsts, x_wishes_lasts, x_wishes_minutes, x_press_pulls, x_press_downs, x_press_rights, x_press_steels, x_guards_size, x_guards_spots, x_guards_lows, x_guards_highs, x_numbers, x_findings, m_strength, m_heat, m_wishes, m_baths, m_pulls, m_guards, m_waiting, m_begin, m_end, m_ground, m_depth, m_life, m_isStopped, m_isKept, m_wishCell, m_wishTone, m_first, m_last, m_minute, m_down, m_right, m_steel, m_guardCell, m_guardLow, m_guardHigh, m_told, m_found, m_isMet, m_isTried, iv, hP, hD, hS, hl⟩ := hI
      refine lv_iinc (pc := 923) (v := (nI i + (4 : Int32))) (lv' := [(3, .int (nI i + (4 : Int32))), (0, .ref b), (1, .ref (ac 0)), (2, .ref (am 0))]) hx hb dL_law_923 hl (k := 3) rfl rfl (by decide) rfl (fun ls hl => ?_)
      refine lv_goto (pc := 926) (tgt := 18) hx hb dL_law_926 (by decide) ?_
      have e4 : nI i + (4 : Int32) = nI (i + 4) := by rw [l4, nI_add]
      rw [e4] at hl
      exact ih (i + 4) k1 n1 H locs ls hi4 (by omega) (by omega) (by omega) ⟨ac, am, aa, sf, T, x_waiting, x_strength, x_heat, x_plates_kinds, x_plates_depths, x_plates_lives, x_plates_stops, x_wishes_size, x_wishes_planned, x_wishes_spots, x_wishes_tones, x_wishes_firsts, x_wishes_lasts, x_wishes_minutes, x_press_pulls, x_press_downs, x_press_rights, x_press_steels, x_guards_size, x_guards_spots, x_guards_lows, x_guards_highs, x_numbers, x_findings, m_strength, m_heat, m_wishes, m_baths, m_pulls, m_guards, m_waiting, m_begin, m_end, m_ground, m_depth, m_life, m_isStopped, m_isKept, m_wishCell, m_wishTone, m_first, m_last, m_minute, m_down, m_right, m_steel, m_guardCell, m_guardLow, m_guardHigh, m_told, m_found, m_isMet, m_isTried, iv, hP, hD, hS, lv_sub hl [1, 2, 3, 0] rfl⟩
    have hI2 := hI
    obtain ⟨ac, am, aa, sf, T, x_waiting, x_strength, x_heat, x_plates_kinds, x_plates_depths, x_plates_lives, x_plates_stops, x_wishes_size, x_wishes_planned, x_wishes_spots, x_wishes_tones, x_wishes_firsts, x_wishes_lasts, x_wishes_minutes, x_press_pulls, x_press_downs, x_press_rights, x_press_steels, x_guards_size, x_guards_spots, x_guards_lows, x_guards_highs, x_numbers, x_findings, m_strength, m_heat, m_wishes, m_baths, m_pulls, m_guards, m_waiting, m_begin, m_end, m_ground, m_depth, m_life, m_isStopped, m_isKept, m_wishCell, m_wishTone, m_first, m_last, m_minute, m_down, m_right, m_steel, m_guardCell, m_guardLow, m_guardHigh, m_told, m_found, m_isMet, m_isTried, iv, hP, hD, hS, hl⟩ := hI2
    refine lv_iload_n (pc := 18) hx hb dL_law_18 rfl (lv_at hl 3 rfl) ?_
    refine lv_aload_n (pc := 19) hx hb dL_law_19 rfl (lv_at hl 0 rfl) ?_
    refine va_slen (pc := 20) hx hb hX hbl hbA hS dL_law_20 ?_
    refine lv_iconst (pc := 21) (v := (4 : Int32)) hx hb dL_law_21 (by decide) ?_
    refine lv_isub (pc := 22) hx hb dL_law_22 ?_
    refine lv_icmp_gt (pc := 23) (tgt := 929) hx hb dL_law_23 (by decide) (fun c9 => ?_) (fun c9 => ?_)
    · refine lv_iconst (pc := 929) (v := (1 : Int32)) hx hb dL_law_929 (by decide) ?_
      refine va_forget (fun q hq => hS.2.2 q hq) ?_
      refine W.widen (k := 600000) (n := 7302250) (by omega) (by omega) ?_
      exact lw_ret hx hb hr hlocks dL_law_930
    · have hi4 : i + 4 ≤ L := by
        have c9 : ¬ (nI L - (4 : Int32) < nI i) := c9
        by_cases h5 : 4 ≤ L
        · rw [l4, q_sub h5, q_lt (by omega) (by omega)] at c9
          omega
        · exfalso
          apply c9
          rw [Int32.lt_iff_toInt_lt, Int32.toInt_sub, nI_toInt (by omega), nI_toInt (by omega), l4, nI_toInt (by omega), Int.bmod_eq_of_le (by omega) (by omega)]
          omega
      have a0 : vp_in (nI i) L := vp_in_nI (by omega) (by omega)
      refine lv_aload_n (pc := 26) hx hb dL_law_26 rfl (lv_at hl 0 rfl) ?_
      refine lv_iload_n (pc := 27) hx hb dL_law_27 rfl (lv_at hl 3 rfl) ?_
      refine va_sld (pc := 28) hx hb hX hbl hbA hS a0 dL_law_28 ?_
      refine lv_bipush (pc := 29) (v := (31 : Int32)) hx hb dL_law_29 (by decide) ?_
      refine lv_iand (pc := 31) hx hb dL_law_31 ?_
      generalize (xs (nI i).toNatClampNeg &&& (31 : Int32)) = t
      by_cases c0 : t = (0 : Int32)
      · refine lv_tableIn (pc := 32) (tgt := 156) (off := 124) hx hb dL_law_32 (by rw [c0]; decide) (by rw [c0]; decide) (by rw [c0]; decide) (by decide) ?_
        exact cs_0 C0 hK hi4 hL ⟨by omega, by omega⟩ rfl rfl rfl hI (fun H1 locs1 ls1 k1 n1 g1 g2 g3 => J H1 locs1 ls1 k1 n1 hi4 g1 g2 g3)
      by_cases c1 : t = (1 : Int32)
      · refine lv_tableIn (pc := 32) (tgt := 189) (off := 157) hx hb dL_law_32 (by rw [c1]; decide) (by rw [c1]; decide) (by rw [c1]; decide) (by decide) ?_
        exact cs_1 C0 hK hi4 hL ⟨by omega, by omega⟩ rfl rfl rfl hI (fun H1 locs1 ls1 k1 n1 g1 g2 g3 => J H1 locs1 ls1 k1 n1 hi4 g1 g2 g3)
      by_cases c2 : t = (2 : Int32)
      · refine lv_tableIn (pc := 32) (tgt := 222) (off := 190) hx hb dL_law_32 (by rw [c2]; decide) (by rw [c2]; decide) (by rw [c2]; decide) (by decide) ?_
        exact cs_2 C0 hK hi4 hL ⟨by omega, by omega⟩ rfl rfl rfl hI (fun H1 locs1 ls1 k1 n1 g1 g2 g3 => J H1 locs1 ls1 k1 n1 hi4 g1 g2 g3)
      by_cases c3 : t = (3 : Int32)
      · refine lv_tableIn (pc := 32) (tgt := 255) (off := 223) hx hb dL_law_32 (by rw [c3]; decide) (by rw [c3]; decide) (by rw [c3]; decide) (by decide) ?_
        exact cs_3 C0 hK hi4 hL ⟨by omega, by omega⟩ rfl rfl rfl hI (fun H1 locs1 ls1 k1 n1 g1 g2 g3 => J H1 locs1 ls1 k1 n1 hi4 g1 g2 g3)
      by_cases c4 : t = (4 : Int32)
      · refine lv_tableIn (pc := 32) (tgt := 278) (off := 246) hx hb dL_law_32 (by rw [c4]; decide) (by rw [c4]; decide) (by rw [c4]; decide) (by decide) ?_
        exact cs_4 C0 hK hi4 hL ⟨by omega, by omega⟩ rfl rfl rfl hI (fun H1 locs1 ls1 k1 n1 g1 g2 g3 => J H1 locs1 ls1 k1 n1 hi4 g1 g2 g3)
      by_cases c5 : t = (5 : Int32)
      · refine lv_tableIn (pc := 32) (tgt := 311) (off := 279) hx hb dL_law_32 (by rw [c5]; decide) (by rw [c5]; decide) (by rw [c5]; decide) (by decide) ?_
        exact cs_5 C0 hK hi4 hL ⟨by omega, by omega⟩ rfl rfl rfl hI (fun H1 locs1 ls1 k1 n1 g1 g2 g3 => J H1 locs1 ls1 k1 n1 hi4 g1 g2 g3)
      by_cases c6 : t = (6 : Int32)
      · refine lv_tableIn (pc := 32) (tgt := 344) (off := 312) hx hb dL_law_32 (by rw [c6]; decide) (by rw [c6]; decide) (by rw [c6]; decide) (by decide) ?_
        exact cs_6 C0 hK hi4 hL ⟨by omega, by omega⟩ rfl rfl rfl hI (fun H1 locs1 ls1 k1 n1 g1 g2 g3 => J H1 locs1 ls1 k1 n1 hi4 g1 g2 g3)
      by_cases c7 : t = (7 : Int32)
      · refine lv_tableIn (pc := 32) (tgt := 377) (off := 345) hx hb dL_law_32 (by rw [c7]; decide) (by rw [c7]; decide) (by rw [c7]; decide) (by decide) ?_
        exact cs_7 C0 hK hi4 hL ⟨by omega, by omega⟩ rfl rfl rfl hI (fun H1 locs1 ls1 k1 n1 g1 g2 g3 => J H1 locs1 ls1 k1 n1 hi4 g1 g2 g3)
      by_cases c8 : t = (8 : Int32)
      · refine lv_tableIn (pc := 32) (tgt := 410) (off := 378) hx hb dL_law_32 (by rw [c8]; decide) (by rw [c8]; decide) (by rw [c8]; decide) (by decide) ?_
        exact cs_8 C0 hK hi4 hL ⟨by omega, by omega⟩ rfl rfl rfl hI (fun H1 locs1 ls1 k1 n1 g1 g2 g3 => J H1 locs1 ls1 k1 n1 hi4 g1 g2 g3)
      by_cases c9 : t = (9 : Int32)
      · refine lv_tableIn (pc := 32) (tgt := 469) (off := 437) hx hb dL_law_32 (by rw [c9]; decide) (by rw [c9]; decide) (by rw [c9]; decide) (by decide) ?_
        exact cs_9 C0 hK hi4 hL ⟨by omega, by omega⟩ rfl rfl rfl hI (fun H1 locs1 ls1 k1 n1 g1 g2 g3 => J H1 locs1 ls1 k1 n1 hi4 g1 g2 g3)
      by_cases c10 : t = (10 : Int32)
      · refine lv_tableIn (pc := 32) (tgt := 502) (off := 470) hx hb dL_law_32 (by rw [c10]; decide) (by rw [c10]; decide) (by rw [c10]; decide) (by decide) ?_
        exact cs_10 C0 hK hi4 hL ⟨by omega, by omega⟩ rfl rfl rfl hI (fun H1 locs1 ls1 k1 n1 g1 g2 g3 => J H1 locs1 ls1 k1 n1 hi4 g1 g2 g3)
      by_cases c11 : t = (11 : Int32)
      · refine lv_tableIn (pc := 32) (tgt := 515) (off := 483) hx hb dL_law_32 (by rw [c11]; decide) (by rw [c11]; decide) (by rw [c11]; decide) (by decide) ?_
        exact cs_11 C0 hK hi4 hL ⟨by omega, by omega⟩ rfl rfl rfl hI (fun H1 locs1 ls1 k1 n1 g1 g2 g3 => J H1 locs1 ls1 k1 n1 hi4 g1 g2 g3)
      by_cases c12 : t = (12 : Int32)
      · refine lv_tableIn (pc := 32) (tgt := 528) (off := 496) hx hb dL_law_32 (by rw [c12]; decide) (by rw [c12]; decide) (by rw [c12]; decide) (by decide) ?_
        exact cs_12 C0 hK hi4 hL ⟨by omega, by omega⟩ rfl rfl rfl hI (fun H1 locs1 ls1 k1 n1 g1 g2 g3 => J H1 locs1 ls1 k1 n1 hi4 g1 g2 g3)
      by_cases c13 : t = (13 : Int32)
      · refine lv_tableIn (pc := 32) (tgt := 551) (off := 519) hx hb dL_law_32 (by rw [c13]; decide) (by rw [c13]; decide) (by rw [c13]; decide) (by decide) ?_
        exact cs_13 C0 hK hi4 hL ⟨by omega, by omega⟩ rfl rfl rfl hI (fun H1 locs1 ls1 k1 n1 g1 g2 g3 => J H1 locs1 ls1 k1 n1 hi4 g1 g2 g3)
      by_cases c14 : t = (14 : Int32)
      · refine lv_tableIn (pc := 32) (tgt := 564) (off := 532) hx hb dL_law_32 (by rw [c14]; decide) (by rw [c14]; decide) (by rw [c14]; decide) (by decide) ?_
        exact cs_14 C0 hK hi4 hL ⟨by omega, by omega⟩ rfl rfl rfl hI (fun H1 locs1 ls1 k1 n1 g1 g2 g3 => J H1 locs1 ls1 k1 n1 hi4 g1 g2 g3)
      by_cases c15 : t = (15 : Int32)
      · refine lv_tableIn (pc := 32) (tgt := 587) (off := 555) hx hb dL_law_32 (by rw [c15]; decide) (by rw [c15]; decide) (by rw [c15]; decide) (by decide) ?_
        exact cs_15 C0 hK hi4 hL ⟨by omega, by omega⟩ rfl rfl rfl hI (fun H1 locs1 ls1 k1 n1 g1 g2 g3 => J H1 locs1 ls1 k1 n1 hi4 g1 g2 g3)
      by_cases c16 : t = (16 : Int32)
      · refine lv_tableIn (pc := 32) (tgt := 620) (off := 588) hx hb dL_law_32 (by rw [c16]; decide) (by rw [c16]; decide) (by rw [c16]; decide) (by decide) ?_
        exact cs_16 C0 hK hi4 hL ⟨by omega, by omega⟩ rfl rfl rfl hI (fun H1 locs1 ls1 k1 n1 g1 g2 g3 => J H1 locs1 ls1 k1 n1 hi4 g1 g2 g3)
      by_cases c17 : t = (17 : Int32)
      · refine lv_tableIn (pc := 32) (tgt := 653) (off := 621) hx hb dL_law_32 (by rw [c17]; decide) (by rw [c17]; decide) (by rw [c17]; decide) (by decide) ?_
        exact cs_17 C0 hK hi4 hL ⟨by omega, by omega⟩ rfl rfl rfl hI (fun H1 locs1 ls1 k1 n1 g1 g2 g3 => J H1 locs1 ls1 k1 n1 hi4 g1 g2 g3)
      by_cases c18 : t = (18 : Int32)
      · refine lv_tableIn (pc := 32) (tgt := 696) (off := 664) hx hb dL_law_32 (by rw [c18]; decide) (by rw [c18]; decide) (by rw [c18]; decide) (by decide) ?_
        exact cs_18 C0 hK hi4 hL ⟨by omega, by omega⟩ rfl rfl rfl hI (fun H1 locs1 ls1 k1 n1 g1 g2 g3 => J H1 locs1 ls1 k1 n1 hi4 g1 g2 g3)
      by_cases c19 : t = (19 : Int32)
      · refine lv_tableIn (pc := 32) (tgt := 719) (off := 687) hx hb dL_law_32 (by rw [c19]; decide) (by rw [c19]; decide) (by rw [c19]; decide) (by decide) ?_
        exact cs_19 C0 hK hi4 hL ⟨by omega, by omega⟩ rfl rfl rfl hI (fun H1 locs1 ls1 k1 n1 g1 g2 g3 => J H1 locs1 ls1 k1 n1 hi4 g1 g2 g3)
      by_cases c20 : t = (20 : Int32)
      · refine lv_tableIn (pc := 32) (tgt := 752) (off := 720) hx hb dL_law_32 (by rw [c20]; decide) (by rw [c20]; decide) (by rw [c20]; decide) (by decide) ?_
        exact cs_20 C0 hK hi4 hL ⟨by omega, by omega⟩ rfl rfl rfl hI (fun H1 locs1 ls1 k1 n1 g1 g2 g3 => J H1 locs1 ls1 k1 n1 hi4 g1 g2 g3)
      by_cases c21 : t = (21 : Int32)
      · refine lv_tableIn (pc := 32) (tgt := 775) (off := 743) hx hb dL_law_32 (by rw [c21]; decide) (by rw [c21]; decide) (by rw [c21]; decide) (by decide) ?_
        exact cs_21 C0 hK hi4 hL ⟨by omega, by omega⟩ rfl rfl rfl hI (fun H1 locs1 ls1 k1 n1 g1 g2 g3 => J H1 locs1 ls1 k1 n1 hi4 g1 g2 g3)
      by_cases c22 : t = (22 : Int32)
      · refine lv_tableIn (pc := 32) (tgt := 818) (off := 786) hx hb dL_law_32 (by rw [c22]; decide) (by rw [c22]; decide) (by rw [c22]; decide) (by decide) ?_
        exact cs_22 C0 hK hi4 hL ⟨by omega, by omega⟩ rfl rfl rfl hI (fun H1 locs1 ls1 k1 n1 g1 g2 g3 => J H1 locs1 ls1 k1 n1 hi4 g1 g2 g3)
      by_cases c23 : t = (23 : Int32)
      · refine lv_tableIn (pc := 32) (tgt := 831) (off := 799) hx hb dL_law_32 (by rw [c23]; decide) (by rw [c23]; decide) (by rw [c23]; decide) (by decide) ?_
        exact cs_23 C0 hK hi4 hL ⟨by omega, by omega⟩ rfl rfl rfl hI (fun H1 locs1 ls1 k1 n1 g1 g2 g3 => J H1 locs1 ls1 k1 n1 hi4 g1 g2 g3)
      by_cases c24 : t = (24 : Int32)
      · refine lv_tableIn (pc := 32) (tgt := 854) (off := 822) hx hb dL_law_32 (by rw [c24]; decide) (by rw [c24]; decide) (by rw [c24]; decide) (by decide) ?_
        exact cs_24 C0 hK hi4 hL ⟨by omega, by omega⟩ rfl rfl rfl hI (fun H1 locs1 ls1 k1 n1 g1 g2 g3 => J H1 locs1 ls1 k1 n1 hi4 g1 g2 g3)
      by_cases c25 : t = (25 : Int32)
      · refine lv_tableIn (pc := 32) (tgt := 877) (off := 845) hx hb dL_law_32 (by rw [c25]; decide) (by rw [c25]; decide) (by rw [c25]; decide) (by decide) ?_
        exact cs_25 C0 hK hi4 hL ⟨by omega, by omega⟩ rfl rfl rfl hI (fun H1 locs1 ls1 k1 n1 g1 g2 g3 => J H1 locs1 ls1 k1 n1 hi4 g1 g2 g3)
      by_cases c26 : t = (26 : Int32)
      · refine lv_tableIn (pc := 32) (tgt := 900) (off := 868) hx hb dL_law_32 (by rw [c26]; decide) (by rw [c26]; decide) (by rw [c26]; decide) (by decide) ?_
        exact cs_26 C0 hK hi4 hL ⟨by omega, by omega⟩ rfl rfl rfl hI (fun H1 locs1 ls1 k1 n1 g1 g2 g3 => J H1 locs1 ls1 k1 n1 hi4 g1 g2 g3)
      refine lv_tableOut (pc := 32) (tgt := 923) hx hb dL_law_32 (by have e0 := zt_ne (z := 0) rfl c0; have e1 := zt_ne (z := 1) rfl c1; have e2 := zt_ne (z := 2) rfl c2; have e3 := zt_ne (z := 3) rfl c3; have e4 := zt_ne (z := 4) rfl c4; have e5 := zt_ne (z := 5) rfl c5; have e6 := zt_ne (z := 6) rfl c6; have e7 := zt_ne (z := 7) rfl c7; have e8 := zt_ne (z := 8) rfl c8; have e9 := zt_ne (z := 9) rfl c9; have e10 := zt_ne (z := 10) rfl c10; have e11 := zt_ne (z := 11) rfl c11; have e12 := zt_ne (z := 12) rfl c12; have e13 := zt_ne (z := 13) rfl c13; have e14 := zt_ne (z := 14) rfl c14; have e15 := zt_ne (z := 15) rfl c15; have e16 := zt_ne (z := 16) rfl c16; have e17 := zt_ne (z := 17) rfl c17; have e18 := zt_ne (z := 18) rfl c18; have e19 := zt_ne (z := 19) rfl c19; have e20 := zt_ne (z := 20) rfl c20; have e21 := zt_ne (z := 21) rfl c21; have e22 := zt_ne (z := 22) rfl c22; have e23 := zt_ne (z := 23) rfl c23; have e24 := zt_ne (z := 24) rfl c24; have e25 := zt_ne (z := 25) rfl c25; have e26 := zt_ne (z := 26) rfl c26; omega) (by decide) ?_
      exact J H locs ls k n hi4 (by omega) (by omega) hI
