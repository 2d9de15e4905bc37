def fX2_ink_52 : Option (Int32) := some (0 : Int32)
def fX2_ink (v_t_downs : Nat → Int32) (v_t_rights : Nat → Int32) (v_o1_depths : Nat → Int32) (p2 : Int32) (p3 : Int32) : Option (Int32) := (if inb p2 3 = true then (if ((p3 / (6 : Int32)) - (v_t_downs p2.toNatClampNeg)) < 0 then fX2_ink_52 else (if (6 : Int32) ≤ ((p3 / (6 : Int32)) - (v_t_downs p2.toNatClampNeg)) then fX2_ink_52 else (if ((5 : Int32) - ((p3 - p3 / (6 : Int32) * (6 : Int32)) - (v_t_rights p2.toNatClampNeg))) < 0 then fX2_ink_52 else (if ((5 : Int32) - ((p3 - p3 / (6 : Int32) * (6 : Int32)) - (v_t_rights p2.toNatClampNeg))) < (6 : Int32) then ((fX1_toneAt v_o1_depths (((p2 * (36 : Int32)) + (((p3 / (6 : Int32)) - (v_t_downs p2.toNatClampNeg)) * (6 : Int32))) + ((5 : Int32) - ((p3 - p3 / (6 : Int32) * (6 : Int32)) - (v_t_rights p2.toNatClampNeg))))).bind fun u6 => some u6) else fX2_ink_52)))) else none)
set_option maxHeartbeats 4000000 in
set_option maxRecDepth 100000 in
theorem mt_X2_ink (E : zE) (l : Launch) (a_t : Nat) (a_t_downs : Nat) (a_t_rights : Nat) (a_t_steels : Nat) (a_o1 : Nat) (a_o1_kinds : Nat) (a_o1_depths : Nat) (a_o1_lives : Nat) (a_o1_stops : Nat) (v_t_pulls : Int32) (v_t_downs : Nat → Int32) (v_t_rights : Nat → Int32) (v_o1_depths : Nat → Int32) (p2 : Int32) (p3 : Int32) (u : Int32) (hf : fX2_ink v_t_downs v_t_rights v_o1_depths p2 p3 = some u)   : zM E l yX2_ink [.code yX2_ink cX2_ink 6 (some .int)] { frames := 3, cells := 0, slots := 0, locals := 54 } [.ref a_t, .ref a_o1, .int p2, .int p3] [(a_t, .inr (2, [.ref a_t_downs, .ref a_t_rights, .ref a_t_steels, .int v_t_pulls])), (a_t_downs, .inl (E.2.1, 3, .inl v_t_downs)), (a_t_rights, .inl (E.2.1, 3, .inl v_t_rights)), (a_o1, .inr (1, [.ref a_o1_kinds, .ref a_o1_depths, .ref a_o1_lives, .ref a_o1_stops])), (a_o1_depths, .inl (E.2.1, 108, .inl v_o1_depths))] (some u) [(a_t, .inr (2, [.ref a_t_downs, .ref a_t_rights, .ref a_t_steels, .int v_t_pulls])), (a_t_downs, .inl (E.2.1, 3, .inl v_t_downs)), (a_t_rights, .inl (E.2.1, 3, .inl v_t_rights)), (a_o1, .inr (1, [.ref a_o1_kinds, .ref a_o1_depths, .ref a_o1_lives, .ref a_o1_stops])), (a_o1_depths, .inl (E.2.1, 108, .inl v_o1_depths))] := by
  refine zM_int (ty := .int) (cc := cX2_ink) (nL := 6) (by decide) (Nat.le_of_ble_eq_true rfl) ?_
  intro p e R s m args below meth c A Q ls hRf hRl hx hb hml hown hK hA hP hD hS hl ret
  have hT := hK.2
  have hown : s.vm.findClass RX2 = some m.cls := hown
  have hl : lv_has ls 6 [(0, .ref a_t), (1, .ref a_o1), (2, .int p2), (3, .int p3)] := hl
  have hw2 : ∀ w ∈ u_ws RX2 TX2 4, w.before args s = true := fun w h => hT w (zl_X2 w h) args
  have h := hf
  unfold fX2_ink at h
  refine lv_iload_n (pc := 0) hx hb dX2_ink_0 rfl (lv_at hl 3 rfl) ?_
  refine lv_bipush (pc := 1) (v := (6 : Int32)) hx hb dX2_ink_1 (by decide) ?_
  refine lv_idiv (pc := 3) hx hb dX2_ink_3 (by decide) ?_
  refine lv_aload_n (pc := 4) hx hb dX2_ink_4 rfl (lv_at hl 0 rfl) ?_
  refine va_get (pc := 5) (ci := 2) (C := RX2) (T := TX2) (N := 4) hx hb hw2 (fun _ h9 => h9) hown hK.1 hP 0 rfl rfl 0 (by decide) (hT _ zw48 _) (fun _ h9 => h9) rfl dX2_ink_5 ?_
  refine lv_iload_n (pc := 8) hx hb dX2_ink_8 rfl (lv_at hl 2 rfl) ?_
  obtain ⟨hb1, h⟩ := r_in h
  refine va_iald (pc := 9) hx hb hK.1 hP 1 0 rfl rfl hb1 dX2_ink_9 ?_
  refine lv_isub (pc := 10) hx hb dX2_ink_10 ?_
  refine lv_istore (pc := 11) (lv' := [(4, .int ((p3 / (6 : Int32)) - (v_t_downs p2.toNatClampNeg))), (0, .ref a_t), (1, .ref a_o1), (2, .int p2), (3, .int p3)]) hx hb dX2_ink_11 hl (by decide) rfl (fun ls hl => ?_)
  refine lv_iconst (pc := 13) (v := (5 : Int32)) hx hb dX2_ink_13 (by decide) ?_
  refine lv_iload_n (pc := 14) hx hb dX2_ink_14 rfl (lv_at hl 4 rfl) ?_
  refine lv_bipush (pc := 15) (v := (6 : Int32)) hx hb dX2_ink_15 (by decide) ?_
  refine lv_irem (pc := 17) hx hb dX2_ink_17 (by decide) ?_
  refine lv_aload_n (pc := 18) hx hb dX2_ink_18 rfl (lv_at hl 1 rfl) ?_
  refine va_get (pc := 19) (ci := 2) (C := RX2) (T := TX2) (N := 4) hx hb hw2 (fun _ h9 => h9) hown hK.1 hP 0 rfl rfl 1 (by decide) (hT _ zw49 _) (fun _ h9 => h9) rfl dX2_ink_19 ?_
  refine lv_iload_n (pc := 22) hx hb dX2_ink_22 rfl (lv_at hl 3 rfl) ?_
  refine va_iald (pc := 23) hx hb hK.1 hP 2 0 rfl rfl hb1 dX2_ink_23 ?_
  refine lv_isub (pc := 24) hx hb dX2_ink_24 ?_
  refine lv_isub (pc := 25) hx hb dX2_ink_25 ?_
  refine lv_istore (pc := 26) (lv' := [(5, .int ((5 : Int32) - ((p3 - p3 / (6 : Int32) * (6 : Int32)) - (v_t_rights p2.toNatClampNeg)))), (4, .int ((p3 / (6 : Int32)) - (v_t_downs p2.toNatClampNeg))), (0, .ref a_t), (1, .ref a_o1), (2, .int p2), (3, .int p3)]) hx hb dX2_ink_26 hl (by decide) rfl (fun ls hl => ?_)
  refine lv_iload (pc := 28) hx hb dX2_ink_28 (lv_at hl 1 rfl) ?_
  have J52 : ∀ (H : Heap) (locs : List Loc) (ls : Array Slot), fX2_ink_52 = some u → lv_has ls 6 [] → va_P E.1 vwCl [(a_t, .inr (2, [.ref a_t_downs, .ref a_t_rights, .ref a_t_steels, .int v_t_pulls])), (a_t_downs, .inl (E.2.1, 3, .inl v_t_downs)), (a_t_rights, .inl (E.2.1, 3, .inl v_t_rights)), (a_o1, .inr (1, [.ref a_o1_kinds, .ref a_o1_depths, .ref a_o1_lives, .ref a_o1_stops])), (a_o1_depths, .inl (E.2.1, 108, .inl v_o1_depths))] H → va_D A [(a_t, .inr (2, [.ref a_t_downs, .ref a_t_rights, .ref a_t_steels, .int v_t_pulls])), (a_t_downs, .inl (E.2.1, 3, .inl v_t_downs)), (a_t_rights, .inl (E.2.1, 3, .inl v_t_rights)), (a_o1, .inr (1, [.ref a_o1_kinds, .ref a_o1_depths, .ref a_o1_lives, .ref a_o1_stops])), (a_o1_depths, .inl (E.2.1, 108, .inl v_o1_depths))] → va_S A s.heap H locs → W p l e R s m args below meth c H locs 0 0 Q (F0 m 52 ls []) := by
    intro H locs ls h hl hP hD hS
    unfold fX2_ink_52 at h
    refine lv_iconst (pc := 52) (v := (0 : Int32)) hx hb dX2_ink_52 (by decide) ?_
    obtain rfl := Option.some.inj h
    exact ret _ _ 53 _ rfl dX2_ink_53 hP hD hS
  refine lv_if_lt (pc := 30) (tgt := 52) hx hb dX2_ink_30 (by decide) (fun c2 => ?_) (fun c2 => ?_)
  · have h := r_pos h c2
    exact J52 _ _ _ h (lv_sub hl [] rfl) hP hD hS
  · have h := r_neg h c2
    refine lv_iload (pc := 33) hx hb dX2_ink_33 (lv_at hl 1 rfl) ?_
    refine lv_bipush (pc := 35) (v := (6 : Int32)) hx hb dX2_ink_35 (by decide) ?_
    refine lv_icmp_ge (pc := 37) (tgt := 52) hx hb dX2_ink_37 (by decide) (fun c3 => ?_) (fun c3 => ?_)
    · have h := r_pos h c3
      exact J52 _ _ _ h (lv_sub hl [] rfl) hP hD hS
    · have h := r_neg h c3
      refine lv_iload (pc := 40) hx hb dX2_ink_40 (lv_at hl 0 rfl) ?_
      refine lv_if_lt (pc := 42) (tgt := 52) hx hb dX2_ink_42 (by decide) (fun c4 => ?_) (fun c4 => ?_)
      · have h := r_pos h c4
        exact J52 _ _ _ h (lv_sub hl [] rfl) hP hD hS
      · have h := r_neg h c4
        refine lv_iload (pc := 45) hx hb dX2_ink_45 (lv_at hl 0 rfl) ?_
        refine lv_bipush (pc := 47) (v := (6 : Int32)) hx hb dX2_ink_47 (by decide) ?_
        refine lv_icmp_lt (pc := 49) (tgt := 54) hx hb dX2_ink_49 (by decide) (fun c5 => ?_) (fun c5 => ?_)
        · have h := r_pos h c5
          refine lv_aload_n (pc := 54) hx hb dX2_ink_54 rfl (lv_at hl 3 rfl) ?_
          refine lv_iload_n (pc := 55) hx hb dX2_ink_55 rfl (lv_at hl 4 rfl) ?_
          refine lv_bipush (pc := 56) (v := (36 : Int32)) hx hb dX2_ink_56 (by decide) ?_
          refine lv_imul (pc := 58) hx hb dX2_ink_58 ?_
          refine lv_iload (pc := 59) hx hb dX2_ink_59 (lv_at hl 1 rfl) ?_
          refine lv_bipush (pc := 61) (v := (6 : Int32)) hx hb dX2_ink_61 (by decide) ?_
          refine lv_imul (pc := 63) hx hb dX2_ink_63 ?_
          refine lv_iadd (pc := 64) hx hb dX2_ink_64 ?_
          refine lv_iload (pc := 65) hx hb dX2_ink_65 (lv_at hl 0 rfl) ?_
          refine lv_iadd (pc := 67) hx hb dX2_ink_67 ?_
          obtain ⟨u6, hg7, h⟩ := r_bind h
          refine z_callV (pc := 68) (n := 1) (o := some u6) (As := [.int (((p2 * (36 : Int32)) + (((p3 / (6 : Int32)) - (v_t_downs p2.toNatClampNeg)) * (6 : Int32))) + ((5 : Int32) - ((p3 - p3 / (6 : Int32) * (6 : Int32)) - (v_t_rights p2.toNatClampNeg))))]) (rest := []) (ci := 1) (q0 := 0) (wc := [(a_o1, .inr (1, [.ref a_o1_kinds, .ref a_o1_depths, .ref a_o1_lives, .ref a_o1_stops])), (a_o1_depths, .inl (E.2.1, 108, .inl v_o1_depths))]) (wc' := [(a_o1, .inr (1, [.ref a_o1_kinds, .ref a_o1_depths, .ref a_o1_lives, .ref a_o1_stops])), (a_o1_depths, .inl (E.2.1, 108, .inl v_o1_depths))]) (wr := [(a_t, .inr (2, [.ref a_t_downs, .ref a_t_rights, .ref a_t_steels, .int v_t_pulls])), (a_t_downs, .inl (E.2.1, 3, .inl v_t_downs)), (a_t_rights, .inl (E.2.1, 3, .inl v_t_rights))]) hx hb hml hown hK hA hP hD hS hl.1 ⟨Nat.zero_le _, Nat.zero_le _⟩ (mt_X1_toneAt E l a_o1 a_o1_kinds a_o1_depths a_o1_lives a_o1_stops v_o1_depths (((p2 * (36 : Int32)) + (((p3 / (6 : Int32)) - (v_t_downs p2.toNatClampNeg)) * (6 : Int32))) + ((5 : Int32) - ((p3 - p3 / (6 : Int32) * (6 : Int32)) - (v_t_rights p2.toNatClampNeg)))) u6 hg7) zw50 zw51 zw52 zw31 zw53 (by decide +kernel) rfl ⟨rfl, rfl, Nat.le_trans (Nat.le_of_ble_eq_true rfl) hRf, Nat.le_trans (Nat.le_of_ble_eq_true rfl) hRl⟩ [3, 4] [0, 1, 2] (by decide) rfl rfl (by decide) (by decide) rfl rfl rfl (Nat.le_of_ble_eq_true rfl) dX2_ink_68 (fun H locs hP hD hS => ?_)
          have hP : va_P E.1 vwCl [(a_t, .inr (2, [.ref a_t_downs, .ref a_t_rights, .ref a_t_steels, .int v_t_pulls])), (a_t_downs, .inl (E.2.1, 3, .inl v_t_downs)), (a_t_rights, .inl (E.2.1, 3, .inl v_t_rights)), (a_o1, .inr (1, [.ref a_o1_kinds, .ref a_o1_depths, .ref a_o1_lives, .ref a_o1_stops])), (a_o1_depths, .inl (E.2.1, 108, .inl v_o1_depths))] H := hP
          have hD : va_D A [(a_t, .inr (2, [.ref a_t_downs, .ref a_t_rights, .ref a_t_steels, .int v_t_pulls])), (a_t_downs, .inl (E.2.1, 3, .inl v_t_downs)), (a_t_rights, .inl (E.2.1, 3, .inl v_t_rights)), (a_o1, .inr (1, [.ref a_o1_kinds, .ref a_o1_depths, .ref a_o1_lives, .ref a_o1_stops])), (a_o1_depths, .inl (E.2.1, 108, .inl v_o1_depths))] := hD
          obtain rfl := Option.some.inj h
          exact ret _ _ 71 _ rfl dX2_ink_71 hP hD hS
        · have h := r_neg h c5
          exact J52 _ _ _ h (lv_sub hl [] rfl) hP hD hS
def fX2_colourAt (v_t_downs : Nat → Int32) (v_t_rights : Nat → Int32) (v_o1_depths : Nat → Int32) (p2 : Int32) : Option (Int32) := ((fX2_ink v_t_downs v_t_rights v_o1_depths (0 : Int32) p2).bind fun u1 => ((fX2_ink v_t_downs v_t_rights v_o1_depths (1 : Int32) p2).bind fun u3 => ((fX2_ink v_t_downs v_t_rights v_o1_depths (2 : Int32) p2).bind fun u5 => some ((u1 + ((16 : Int32) * u3)) + ((256 : Int32) * u5)))))
set_option maxHeartbeats 4000000 in
set_option maxRecDepth 100000 in
theorem mt_X2_colourAt (E : zE) (l : Launch) (a_t : Nat) (a_t_downs : Nat) (a_t_rights : Nat) (a_t_steels : Nat) (a_o1 : Nat) (a_o1_kinds : Nat) (a_o1_depths : Nat) (a_o1_lives : Nat) (a_o1_stops : Nat) (v_t_pulls : Int32) (v_t_downs : Nat → Int32) (v_t_rights : Nat → Int32) (v_o1_depths : Nat → Int32) (p2 : Int32) (u : Int32) (hf : fX2_colourAt v_t_downs v_t_rights v_o1_depths p2 = some u)   : zM E l yX2_colourAt [.code yX2_colourAt cX2_colourAt 3 (some .int)] { frames := 4, cells := 0, slots := 0, locals := 79 } [.ref a_t, .ref a_o1, .int p2] [(a_t, .inr (2, [.ref a_t_downs, .ref a_t_rights, .ref a_t_steels, .int v_t_pulls])), (a_t_downs, .inl (E.2.1, 3, .inl v_t_downs)), (a_t_rights, .inl (E.2.1, 3, .inl v_t_rights)), (a_o1, .inr (1, [.ref a_o1_kinds, .ref a_o1_depths, .ref a_o1_lives, .ref a_o1_stops])), (a_o1_depths, .inl (E.2.1, 108, .inl v_o1_depths))] (some u) [(a_t, .inr (2, [.ref a_t_downs, .ref a_t_rights, .ref a_t_steels, .int v_t_pulls])), (a_t_downs, .inl (E.2.1, 3, .inl v_t_downs)), (a_t_rights, .inl (E.2.1, 3, .inl v_t_rights)), (a_o1, .inr (1, [.ref a_o1_kinds, .ref a_o1_depths, .ref a_o1_lives, .ref a_o1_stops])), (a_o1_depths, .inl (E.2.1, 108, .inl v_o1_depths))] := by
  refine zM_int (ty := .int) (cc := cX2_colourAt) (nL := 3) (by decide) (Nat.le_of_ble_eq_true rfl) ?_
  intro p e R s m args below meth c A Q ls hRf hRl hx hb hml hown hK hA hP hD hS hl ret
  have hT := hK.2
  have hown : s.vm.findClass RX2 = some m.cls := hown
  have hl : lv_has ls 3 [(0, .ref a_t), (1, .ref a_o1), (2, .int p2)] := hl
  have h := hf
  unfold fX2_colourAt at h
  refine lv_aload_n (pc := 0) hx hb dX2_colourAt_0 rfl (lv_at hl 0 rfl) ?_
  refine lv_aload_n (pc := 1) hx hb dX2_colourAt_1 rfl (lv_at hl 1 rfl) ?_
  refine lv_iconst (pc := 2) (v := (0 : Int32)) hx hb dX2_colourAt_2 (by decide) ?_
  refine lv_iload_n (pc := 3) hx hb dX2_colourAt_3 rfl (lv_at hl 2 rfl) ?_
  obtain ⟨u1, hg2, h⟩ := r_bind h
  refine z_callV (pc := 4) (n := 3) (o := some u1) (As := [.ref a_o1, .int (0 : Int32), .int p2]) (rest := []) (ci := 2) (q0 := 0) (wc := [(a_t, .inr (2, [.ref a_t_downs, .ref a_t_rights, .ref a_t_steels, .int v_t_pulls])), (a_t_downs, .inl (E.2.1, 3, .inl v_t_downs)), (a_t_rights, .inl (E.2.1, 3, .inl v_t_rights)), (a_o1, .inr (1, [.ref a_o1_kinds, .ref a_o1_depths, .ref a_o1_lives, .ref a_o1_stops])), (a_o1_depths, .inl (E.2.1, 108, .inl v_o1_depths))]) (wc' := [(a_t, .inr (2, [.ref a_t_downs, .ref a_t_rights, .ref a_t_steels, .int v_t_pulls])), (a_t_downs, .inl (E.2.1, 3, .inl v_t_downs)), (a_t_rights, .inl (E.2.1, 3, .inl v_t_rights)), (a_o1, .inr (1, [.ref a_o1_kinds, .ref a_o1_depths, .ref a_o1_lives, .ref a_o1_stops])), (a_o1_depths, .inl (E.2.1, 108, .inl v_o1_depths))]) (wr := []) hx hb hml hown hK hA hP hD hS hl.1 ⟨Nat.zero_le _, Nat.zero_le _⟩ (mt_X2_ink E l a_t a_t_downs a_t_rights a_t_steels a_o1 a_o1_kinds a_o1_depths a_o1_lives a_o1_stops v_t_pulls v_t_downs v_t_rights v_o1_depths (0 : Int32) p2 u1 hg2) zw54 zw55 zw56 zw57 zw58 (by decide +kernel) rfl ⟨rfl, rfl, Nat.le_trans (Nat.le_of_ble_eq_true rfl) hRf, Nat.le_trans (Nat.le_of_ble_eq_true rfl) hRl⟩ [0, 1, 2, 3, 4] [] (by decide) rfl rfl (by decide) (by decide) rfl rfl rfl (Nat.le_of_ble_eq_true rfl) dX2_colourAt_4 (fun H locs hP hD hS => ?_)
  have hP : va_P E.1 vwCl [(a_t, .inr (2, [.ref a_t_downs, .ref a_t_rights, .ref a_t_steels, .int v_t_pulls])), (a_t_downs, .inl (E.2.1, 3, .inl v_t_downs)), (a_t_rights, .inl (E.2.1, 3, .inl v_t_rights)), (a_o1, .inr (1, [.ref a_o1_kinds, .ref a_o1_depths, .ref a_o1_lives, .ref a_o1_stops])), (a_o1_depths, .inl (E.2.1, 108, .inl v_o1_depths))] H := hP
  have hD : va_D A [(a_t, .inr (2, [.ref a_t_downs, .ref a_t_rights, .ref a_t_steels, .int v_t_pulls])), (a_t_downs, .inl (E.2.1, 3, .inl v_t_downs)), (a_t_rights, .inl (E.2.1, 3, .inl v_t_rights)), (a_o1, .inr (1, [.ref a_o1_kinds, .ref a_o1_depths, .ref a_o1_lives, .ref a_o1_stops])), (a_o1_depths, .inl (E.2.1, 108, .inl v_o1_depths))] := hD
  refine lv_bipush (pc := 7) (v := (16 : Int32)) hx hb dX2_colourAt_7 (by decide) ?_
  refine lv_aload_n (pc := 9) hx hb dX2_colourAt_9 rfl (lv_at hl 0 rfl) ?_
  refine lv_aload_n (pc := 10) hx hb dX2_colourAt_10 rfl (lv_at hl 1 rfl) ?_
  refine lv_iconst (pc := 11) (v := (1 : Int32)) hx hb dX2_colourAt_11 (by decide) ?_
  refine lv_iload_n (pc := 12) hx hb dX2_colourAt_12 rfl (lv_at hl 2 rfl) ?_
  obtain ⟨u3, hg4, h⟩ := r_bind h
  refine z_callV (pc := 13) (n := 3) (o := some u3) (As := [.ref a_o1, .int (1 : Int32), .int p2]) (rest := [.int (16 : Int32), .int u1]) (ci := 2) (q0 := 0) (wc := [(a_t, .inr (2, [.ref a_t_downs, .ref a_t_rights, .ref a_t_steels, .int v_t_pulls])), (a_t_downs, .inl (E.2.1, 3, .inl v_t_downs)), (a_t_rights, .inl (E.2.1, 3, .inl v_t_rights)), (a_o1, .inr (1, [.ref a_o1_kinds, .ref a_o1_depths, .ref a_o1_lives, .ref a_o1_stops])), (a_o1_depths, .inl (E.2.1, 108, .inl v_o1_depths))]) (wc' := [(a_t, .inr (2, [.ref a_t_downs, .ref a_t_rights, .ref a_t_steels, .int v_t_pulls])), (a_t_downs, .inl (E.2.1, 3, .inl v_t_downs)), (a_t_rights, .inl (E.2.1, 3, .inl v_t_rights)), (a_o1, .inr (1, [.ref a_o1_kinds, .ref a_o1_depths, .ref a_o1_lives, .ref a_o1_stops])), (a_o1_depths, .inl (E.2.1, 108, .inl v_o1_depths))]) (wr := []) hx hb hml hown hK hA hP hD hS hl.1 ⟨Nat.zero_le _, Nat.zero_le _⟩ (mt_X2_ink E l a_t a_t_downs a_t_rights a_t_steels a_o1 a_o1_kinds a_o1_depths a_o1_lives a_o1_stops v_t_pulls v_t_downs v_t_rights v_o1_depths (1 : Int32) p2 u3 hg4) zw54 zw55 zw56 zw57 zw58 (by decide +kernel) rfl ⟨rfl, rfl, Nat.le_trans (Nat.le_of_ble_eq_true rfl) hRf, Nat.le_trans (Nat.le_of_ble_eq_true rfl) hRl⟩ [0, 1, 2, 3, 4] [] (by decide) rfl rfl (by decide) (by decide) rfl rfl rfl (Nat.le_of_ble_eq_true rfl) dX2_colourAt_13 (fun H locs hP hD hS => ?_)
  have hP : va_P E.1 vwCl [(a_t, .inr (2, [.ref a_t_downs, .ref a_t_rights, .ref a_t_steels, .int v_t_pulls])), (a_t_downs, .inl (E.2.1, 3, .inl v_t_downs)), (a_t_rights, .inl (E.2.1, 3, .inl v_t_rights)), (a_o1, .inr (1, [.ref a_o1_kinds, .ref a_o1_depths, .ref a_o1_lives, .ref a_o1_stops])), (a_o1_depths, .inl (E.2.1, 108, .inl v_o1_depths))] H := hP
  have hD : va_D A [(a_t, .inr (2, [.ref a_t_downs, .ref a_t_rights, .ref a_t_steels, .int v_t_pulls])), (a_t_downs, .inl (E.2.1, 3, .inl v_t_downs)), (a_t_rights, .inl (E.2.1, 3, .inl v_t_rights)), (a_o1, .inr (1, [.ref a_o1_kinds, .ref a_o1_depths, .ref a_o1_lives, .ref a_o1_stops])), (a_o1_depths, .inl (E.2.1, 108, .inl v_o1_depths))] := hD
  refine lv_imul (pc := 16) hx hb dX2_colourAt_16 ?_
  refine lv_iadd (pc := 17) hx hb dX2_colourAt_17 ?_
  refine lv_sipush (pc := 18) (v := (256 : Int32)) hx hb dX2_colourAt_18 (by decide) ?_
  refine lv_aload_n (pc := 21) hx hb dX2_colourAt_21 rfl (lv_at hl 0 rfl) ?_
  refine lv_aload_n (pc := 22) hx hb dX2_colourAt_22 rfl (lv_at hl 1 rfl) ?_
  refine lv_iconst (pc := 23) (v := (2 : Int32)) hx hb dX2_colourAt_23 (by decide) ?_
  refine lv_iload_n (pc := 24) hx hb dX2_colourAt_24 rfl (lv_at hl 2 rfl) ?_
  obtain ⟨u5, hg6, h⟩ := r_bind h
  refine z_callV (pc := 25) (n := 3) (o := some u5) (As := [.ref a_o1, .int (2 : Int32), .int p2]) (rest := [.int (256 : Int32), .int (u1 + ((16 : Int32) * u3))]) (ci := 2) (q0 := 0) (wc := [(a_t, .inr (2, [.ref a_t_downs, .ref a_t_rights, .ref a_t_steels, .int v_t_pulls])), (a_t_downs, .inl (E.2.1, 3, .inl v_t_downs)), (a_t_rights, .inl (E.2.1, 3, .inl v_t_rights)), (a_o1, .inr (1, [.ref a_o1_kinds, .ref a_o1_depths, .ref a_o1_lives, .ref a_o1_stops])), (a_o1_depths, .inl (E.2.1, 108, .inl v_o1_depths))]) (wc' := [(a_t, .inr (2, [.ref a_t_downs, .ref a_t_rights, .ref a_t_steels, .int v_t_pulls])), (a_t_downs, .inl (E.2.1, 3, .inl v_t_downs)), (a_t_rights, .inl (E.2.1, 3, .inl v_t_rights)), (a_o1, .inr (1, [.ref a_o1_kinds, .ref a_o1_depths, .ref a_o1_lives, .ref a_o1_stops])), (a_o1_depths, .inl (E.2.1, 108, .inl v_o1_depths))]) (wr := []) hx hb hml hown hK hA hP hD hS hl.1 ⟨Nat.zero_le _, Nat.zero_le _⟩ (mt_X2_ink E l a_t a_t_downs a_t_rights a_t_steels a_o1 a_o1_kinds a_o1_depths a_o1_lives a_o1_stops v_t_pulls v_t_downs v_t_rights v_o1_depths (2 : Int32) p2 u5 hg6) zw54 zw55 zw56 zw57 zw58 (by decide +kernel) rfl ⟨rfl, rfl, Nat.le_trans (Nat.le_of_ble_eq_true rfl) hRf, Nat.le_trans (Nat.le_of_ble_eq_true rfl) hRl⟩ [0, 1, 2, 3, 4] [] (by decide) rfl rfl (by decide) (by decide) rfl rfl rfl (Nat.le_of_ble_eq_true rfl) dX2_colourAt_25 (fun H locs hP hD hS => ?_)
  have hP : va_P E.1 vwCl [(a_t, .inr (2, [.ref a_t_downs, .ref a_t_rights, .ref a_t_steels, .int v_t_pulls])), (a_t_downs, .inl (E.2.1, 3, .inl v_t_downs)), (a_t_rights, .inl (E.2.1, 3, .inl v_t_rights)), (a_o1, .inr (1, [.ref a_o1_kinds, .ref a_o1_depths, .ref a_o1_lives, .ref a_o1_stops])), (a_o1_depths, .inl (E.2.1, 108, .inl v_o1_depths))] H := hP
  have hD : va_D A [(a_t, .inr (2, [.ref a_t_downs, .ref a_t_rights, .ref a_t_steels, .int v_t_pulls])), (a_t_downs, .inl (E.2.1, 3, .inl v_t_downs)), (a_t_rights, .inl (E.2.1, 3, .inl v_t_rights)), (a_o1, .inr (1, [.ref a_o1_kinds, .ref a_o1_depths, .ref a_o1_lives, .ref a_o1_stops])), (a_o1_depths, .inl (E.2.1, 108, .inl v_o1_depths))] := hD
  refine lv_imul (pc := 28) hx hb dX2_colourAt_28 ?_
  refine lv_iadd (pc := 29) hx hb dX2_colourAt_29 ?_
  obtain rfl := Option.some.inj h
  exact ret _ _ 30 _ rfl dX2_colourAt_30 hP hD hS
def fX2_colourOfAll_4 (v_t_downs : Nat → Int32) (v_t_rights : Nat → Int32) (v_o1_depths : Nat → Int32) : Nat → Int32 → Int32 → Option (Int32)
  | 0, _, _ => none
  | n4 + 1, x4_2, x4_3 => (if (36 : Int32) ≤ x4_3 then some x4_2 else ((fX2_colourAt v_t_downs v_t_rights v_o1_depths x4_3).bind fun u2 => (fX2_colourOfAll_4 v_t_downs v_t_rights v_o1_depths n4) (x4_2 + u2) (x4_3 + (1 : Int32))))
def fX2_colourOfAll (v_t_downs : Nat → Int32) (v_t_rights : Nat → Int32) (v_o1_depths : Nat → Int32) : Option (Int32) := fX2_colourOfAll_4 v_t_downs v_t_rights v_o1_depths 100000 (0 : Int32) (0 : Int32)
set_option maxHeartbeats 4000000 in
set_option maxRecDepth 100000 in
theorem mt_X2_colourOfAll (E : zE) (l : Launch) (a_t : Nat) (a_t_downs : Nat) (a_t_rights : Nat) (a_t_steels : Nat) (a_o1 : Nat) (a_o1_kinds : Nat) (a_o1_depths : Nat) (a_o1_lives : Nat) (a_o1_stops : Nat) (v_t_pulls : Int32) (v_t_downs : Nat → Int32) (v_t_rights : Nat → Int32) (v_o1_depths : Nat → Int32) (u : Int32) (hf : fX2_colourOfAll v_t_downs v_t_rights v_o1_depths = some u)   : zM E l yX2_colourOfAll [.code yX2_colourOfAll cX2_colourOfAll 4 (some .int)] { frames := 5, cells := 0, slots := 0, locals := 101 } [.ref a_t, .ref a_o1] [(a_t, .inr (2, [.ref a_t_downs, .ref a_t_rights, .ref a_t_steels, .int v_t_pulls])), (a_t_downs, .inl (E.2.1, 3, .inl v_t_downs)), (a_t_rights, .inl (E.2.1, 3, .inl v_t_rights)), (a_o1, .inr (1, [.ref a_o1_kinds, .ref a_o1_depths, .ref a_o1_lives, .ref a_o1_stops])), (a_o1_depths, .inl (E.2.1, 108, .inl v_o1_depths))] (some u) [(a_t, .inr (2, [.ref a_t_downs, .ref a_t_rights, .ref a_t_steels, .int v_t_pulls])), (a_t_downs, .inl (E.2.1, 3, .inl v_t_downs)), (a_t_rights, .inl (E.2.1, 3, .inl v_t_rights)), (a_o1, .inr (1, [.ref a_o1_kinds, .ref a_o1_depths, .ref a_o1_lives, .ref a_o1_stops])), (a_o1_depths, .inl (E.2.1, 108, .inl v_o1_depths))] := by
  refine zM_int (ty := .int) (cc := cX2_colourOfAll) (nL := 4) (by decide) (Nat.le_of_ble_eq_true rfl) ?_
  intro p e R s m args below meth c A Q ls hRf hRl hx hb hml hown hK hA hP hD hS hl ret
  have hT := hK.2
  have hown : s.vm.findClass RX2 = some m.cls := hown
  have hl : lv_has ls 4 [(0, .ref a_t), (1, .ref a_o1)] := hl
  have h := hf
  unfold fX2_colourOfAll at h
  refine lv_iconst (pc := 0) (v := (0 : Int32)) hx hb dX2_colourOfAll_0 (by decide) ?_
  refine lv_istore_n (pc := 1) (lv' := [(2, .int (0 : Int32)), (0, .ref a_t), (1, .ref a_o1)]) hx hb dX2_colourOfAll_1 rfl hl (by decide) rfl (fun ls hl => ?_)
  refine lv_iconst (pc := 2) (v := (0 : Int32)) hx hb dX2_colourOfAll_2 (by decide) ?_
  refine lv_istore_n (pc := 3) (lv' := [(3, .int (0 : Int32)), (2, .int (0 : Int32)), (0, .ref a_t), (1, .ref a_o1)]) hx hb dX2_colourOfAll_3 rfl hl (by decide) rfl (fun ls hl => ?_)
  have J4 : ∀ (n4 : Nat) (x4_2 : Int32) (x4_3 : Int32) (H : Heap) (locs : List Loc) (ls : Array Slot), fX2_colourOfAll_4 v_t_downs v_t_rights v_o1_depths n4 x4_2 x4_3 = some u → lv_has ls 4 [(0, .ref a_t), (1, .ref a_o1), (2, .int x4_2), (3, .int x4_3)] → va_P E.1 vwCl [(a_t, .inr (2, [.ref a_t_downs, .ref a_t_rights, .ref a_t_steels, .int v_t_pulls])), (a_t_downs, .inl (E.2.1, 3, .inl v_t_downs)), (a_t_rights, .inl (E.2.1, 3, .inl v_t_rights)), (a_o1, .inr (1, [.ref a_o1_kinds, .ref a_o1_depths, .ref a_o1_lives, .ref a_o1_stops])), (a_o1_depths, .inl (E.2.1, 108, .inl v_o1_depths))] H → va_D A [(a_t, .inr (2, [.ref a_t_downs, .ref a_t_rights, .ref a_t_steels, .int v_t_pulls])), (a_t_downs, .inl (E.2.1, 3, .inl v_t_downs)), (a_t_rights, .inl (E.2.1, 3, .inl v_t_rights)), (a_o1, .inr (1, [.ref a_o1_kinds, .ref a_o1_depths, .ref a_o1_lives, .ref a_o1_stops])), (a_o1_depths, .inl (E.2.1, 108, .inl v_o1_depths))] → va_S A s.heap H locs → W p l e R s m args below meth c H locs 0 0 Q (F0 m 4 ls []) := by
    intro n4
    induction n4 with
    | zero =>
      intro x4_2 x4_3 H locs ls h hl hP hD hS
      rw [fX2_colourOfAll_4] at h
      cases h
    | succ n4 ih4 =>
      intro x4_2 x4_3 H locs ls h hl hP hD hS
      rw [fX2_colourOfAll_4] at h
      refine lv_iload_n (pc := 4) hx hb dX2_colourOfAll_4 rfl (lv_at hl 3 rfl) ?_
      refine lv_bipush (pc := 5) (v := (36 : Int32)) hx hb dX2_colourOfAll_5 (by decide) ?_
      refine lv_icmp_ge (pc := 7) (tgt := 25) hx hb dX2_colourOfAll_7 (by decide) (fun c1 => ?_) (fun c1 => ?_)
      · have h := r_pos h c1
        refine lv_iload_n (pc := 25) hx hb dX2_colourOfAll_25 rfl (lv_at hl 2 rfl) ?_
        obtain rfl := Option.some.inj h
        exact ret _ _ 26 _ rfl dX2_colourOfAll_26 hP hD hS
      · have h := r_neg h c1
        refine lv_iload_n (pc := 10) hx hb dX2_colourOfAll_10 rfl (lv_at hl 2 rfl) ?_
        refine lv_aload_n (pc := 11) hx hb dX2_colourOfAll_11 rfl (lv_at hl 0 rfl) ?_
        refine lv_aload_n (pc := 12) hx hb dX2_colourOfAll_12 rfl (lv_at hl 1 rfl) ?_
        refine lv_iload_n (pc := 13) hx hb dX2_colourOfAll_13 rfl (lv_at hl 3 rfl) ?_
        obtain ⟨u2, hg3, h⟩ := r_bind h
        refine z_callV (pc := 14) (n := 2) (o := some u2) (As := [.ref a_o1, .int x4_3]) (rest := [.int x4_2]) (ci := 2) (q0 := 0) (wc := [(a_t, .inr (2, [.ref a_t_downs, .ref a_t_rights, .ref a_t_steels, .int v_t_pulls])), (a_t_downs, .inl (E.2.1, 3, .inl v_t_downs)), (a_t_rights, .inl (E.2.1, 3, .inl v_t_rights)), (a_o1, .inr (1, [.ref a_o1_kinds, .ref a_o1_depths, .ref a_o1_lives, .ref a_o1_stops])), (a_o1_depths, .inl (E.2.1, 108, .inl v_o1_depths))]) (wc' := [(a_t, .inr (2, [.ref a_t_downs, .ref a_t_rights, .ref a_t_steels, .int v_t_pulls])), (a_t_downs, .inl (E.2.1, 3, .inl v_t_downs)), (a_t_rights, .inl (E.2.1, 3, .inl v_t_rights)), (a_o1, .inr (1, [.ref a_o1_kinds, .ref a_o1_depths, .ref a_o1_lives, .ref a_o1_stops])), (a_o1_depths, .inl (E.2.1, 108, .inl v_o1_depths))]) (wr := []) hx hb hml hown hK hA hP hD hS hl.1 ⟨Nat.zero_le _, Nat.zero_le _⟩ (mt_X2_colourAt E l a_t a_t_downs a_t_rights a_t_steels a_o1 a_o1_kinds a_o1_depths a_o1_lives a_o1_stops v_t_pulls v_t_downs v_t_rights v_o1_depths x4_3 u2 hg3) zw59 zw60 zw61 zw57 zw62 (by decide +kernel) rfl ⟨rfl, rfl, Nat.le_trans (Nat.le_of_ble_eq_true rfl) hRf, Nat.le_trans (Nat.le_of_ble_eq_true rfl) hRl⟩ [0, 1, 2, 3, 4] [] (by decide) rfl rfl (by decide) (by decide) rfl rfl rfl (Nat.le_of_ble_eq_true rfl) dX2_colourOfAll_14 (fun H locs hP hD hS => ?_)
        have hP : va_P E.1 vwCl [(a_t, .inr (2, [.ref a_t_downs, .ref a_t_rights, .ref a_t_steels, .int v_t_pulls])), (a_t_downs, .inl (E.2.1, 3, .inl v_t_downs)), (a_t_rights, .inl (E.2.1, 3, .inl v_t_rights)), (a_o1, .inr (1, [.ref a_o1_kinds, .ref a_o1_depths, .ref a_o1_lives, .ref a_o1_stops])), (a_o1_depths, .inl (E.2.1, 108, .inl v_o1_depths))] H := hP
        have hD : va_D A [(a_t, .inr (2, [.ref a_t_downs, .ref a_t_rights, .ref a_t_steels, .int v_t_pulls])), (a_t_downs, .inl (E.2.1, 3, .inl v_t_downs)), (a_t_rights, .inl (E.2.1, 3, .inl v_t_rights)), (a_o1, .inr (1, [.ref a_o1_kinds, .ref a_o1_depths, .ref a_o1_lives, .ref a_o1_stops])), (a_o1_depths, .inl (E.2.1, 108, .inl v_o1_depths))] := hD
        refine lv_iadd (pc := 17) hx hb dX2_colourOfAll_17 ?_
        refine lv_istore_n (pc := 18) (lv' := [(2, .int (x4_2 + u2)), (0, .ref a_t), (1, .ref a_o1), (3, .int x4_3)]) hx hb dX2_colourOfAll_18 rfl hl (by decide) rfl (fun ls hl => ?_)
        refine lv_iinc (pc := 19) (v := (x4_3 + (1 : Int32))) (lv' := [(3, .int (x4_3 + (1 : Int32))), (2, .int (x4_2 + u2)), (0, .ref a_t), (1, .ref a_o1)]) hx hb dX2_colourOfAll_19 hl (k := 3) rfl rfl (by decide) rfl (fun ls hl => ?_)
        refine lv_goto (pc := 22) (tgt := 4) hx hb dX2_colourOfAll_22 (by decide) ?_
        exact ih4 (x4_2 + u2) (x4_3 + (1 : Int32)) _ _ _ h (lv_sub hl [2, 3, 1, 0] rfl) hP hD hS
  exact J4 _ (0 : Int32) (0 : Int32) _ _ _ h (lv_sub hl [2, 3, 1, 0] rfl) hP hD hS
def fX2_wearPlate_55 (x5_3 : Int32) (y5_o0_depths : Nat → Int32) (k5 : Int32 → (Nat → Int32) → Option ((Nat → Int32))) (x26_4 : Int32) : Option ((Nat → Int32)) := k5 (x5_3 + (1 : Int32)) (upd y5_o0_depths x5_3.toNatClampNeg x26_4)
def fX2_wearPlate_26 (p2 : Int32) (x5_3 : Int32) (y5_o0_depths : Nat → Int32) (k5 : Int32 → (Nat → Int32) → Option ((Nat → Int32))) : Nat → Int32 → Int32 → Option ((Nat → Int32))
  | 0, _, _ => none
  | n26 + 1, x26_4, x26_5 => (if p2 ≤ x26_5 then fX2_wearPlate_55 x5_3 y5_o0_depths k5 x26_4 else ((fX4_worn x26_4).bind fun u4 => (if x26_4 ≤ u4 then fX2_wearPlate_55 x5_3 y5_o0_depths k5 x26_4 else ((fX4_worn x26_4).bind fun u7 => (fX2_wearPlate_26 p2 x5_3 y5_o0_depths k5 n26) u7 (x26_5 + (1 : Int32))))))
def fX2_wearPlate_5 (p1 : Int32) (p2 : Int32) : Nat → Int32 → (Nat → Int32) → Option ((Nat → Int32))
  | 0, _, _ => none
  | n5 + 1, x5_3, y5_o0_depths => (if ((p1 + (1 : Int32)) * (36 : Int32)) ≤ x5_3 then some y5_o0_depths else (if inb x5_3 108 = true then fX2_wearPlate_26 p2 x5_3 y5_o0_depths (fX2_wearPlate_5 p1 p2 n5) 100000 (y5_o0_depths x5_3.toNatClampNeg) (0 : Int32) else none))
def fX2_wearPlate (v_o0_depths : Nat → Int32) (p1 : Int32) (p2 : Int32) : Option ((Nat → Int32)) := fX2_wearPlate_5 p1 p2 100000 (p1 * (36 : Int32)) v_o0_depths
set_option maxHeartbeats 4000000 in
set_option maxRecDepth 100000 in
theorem mt_X2_wearPlate (E : zE) (l : Launch) (a_o0 : Nat) (a_o0_kinds : Nat) (a_o0_depths : Nat) (a_o0_lives : Nat) (a_o0_stops : Nat) (v_o0_depths : Nat → Int32) (p1 : Int32) (p2 : Int32) (u : (Nat → Int32)) (hf : fX2_wearPlate v_o0_depths p1 p2 = some u)   : zM E l yX2_wearPlate [.code yX2_wearPlate cX2_wearPlate 6 none] { frames := 1, cells := 0, slots := 0, locals := 20 } [.ref a_o0, .int p1, .int p2] [(a_o0, .inr (1, [.ref a_o0_kinds, .ref a_o0_depths, .ref a_o0_lives, .ref a_o0_stops])), (a_o0_depths, .inl (E.2.1, 108, .inl v_o0_depths))] (none) [(a_o0, .inr (1, [.ref a_o0_kinds, .ref a_o0_depths, .ref a_o0_lives, .ref a_o0_stops])), (a_o0_depths, .inl (E.2.1, 108, .inl u))] := by
  refine zM_void (cc := cX2_wearPlate) (nL := 6) (by decide) (Nat.le_of_ble_eq_true rfl) ?_
  intro p e R s m args below meth c A Q ls hRf hRl hx hb hml hown hK hA hP hD hS hl ret
  have hT := hK.2
  have hown : s.vm.findClass RX2 = some m.cls := hown
  have hl : lv_has ls 6 [(0, .ref a_o0), (1, .int p1), (2, .int p2)] := hl
  have hw1 : ∀ w ∈ u_ws RX1 TX1 4, w.before args s = true := fun w h => hT w (zl_X1 w h) args
  have h := hf
  unfold fX2_wearPlate at h
  refine lv_iload_n (pc := 0) hx hb dX2_wearPlate_0 rfl (lv_at hl 1 rfl) ?_
  refine lv_bipush (pc := 1) (v := (36 : Int32)) hx hb dX2_wearPlate_1 (by decide) ?_
  refine lv_imul (pc := 3) hx hb dX2_wearPlate_3 ?_
  refine lv_istore_n (pc := 4) (lv' := [(3, .int (p1 * (36 : Int32))), (0, .ref a_o0), (1, .int p1), (2, .int p2)]) hx hb dX2_wearPlate_4 rfl hl (by decide) rfl (fun ls hl => ?_)
  have J5 : ∀ (n5 : Nat) (x5_3 : Int32) (y5_o0_depths : Nat → Int32) (H : Heap) (locs : List Loc) (ls : Array Slot), fX2_wearPlate_5 p1 p2 n5 x5_3 y5_o0_depths = some u → lv_has ls 6 [(0, .ref a_o0), (1, .int p1), (2, .int p2), (3, .int x5_3)] → va_P E.1 vwCl [(a_o0, .inr (1, [.ref a_o0_kinds, .ref a_o0_depths, .ref a_o0_lives, .ref a_o0_stops])), (a_o0_depths, .inl (E.2.1, 108, .inl y5_o0_depths))] H → va_D A [(a_o0, .inr (1, [.ref a_o0_kinds, .ref a_o0_depths, .ref a_o0_lives, .ref a_o0_stops])), (a_o0_depths, .inl (E.2.1, 108, .inl y5_o0_depths))] → va_S A s.heap H locs → W p l e R s m args below meth c H locs 0 0 Q (F0 m 5 ls []) := by
    intro n5
    induction n5 with
    | zero =>
      intro x5_3 y5_o0_depths H locs ls h hl hP hD hS
      rw [fX2_wearPlate_5] at h
      cases h
    | succ n5 ih5 =>
      intro x5_3 y5_o0_depths H locs ls h hl hP hD hS
      rw [fX2_wearPlate_5] at h
      refine lv_iload_n (pc := 5) hx hb dX2_wearPlate_5 rfl (lv_at hl 3 rfl) ?_
      refine lv_iload_n (pc := 6) hx hb dX2_wearPlate_6 rfl (lv_at hl 1 rfl) ?_
      refine lv_iconst (pc := 7) (v := (1 : Int32)) hx hb dX2_wearPlate_7 (by decide) ?_
      refine lv_iadd (pc := 8) hx hb dX2_wearPlate_8 ?_
      refine lv_bipush (pc := 9) (v := (36 : Int32)) hx hb dX2_wearPlate_9 (by decide) ?_
      refine lv_imul (pc := 11) hx hb dX2_wearPlate_11 ?_
      refine lv_icmp_ge (pc := 12) (tgt := 69) hx hb dX2_wearPlate_12 (by decide) (fun c1 => ?_) (fun c1 => ?_)
      · have h := r_pos h c1
        obtain rfl := Option.some.inj h
        exact ret _ _ 69 _ dX2_wearPlate_69 hP hD hS
      · have h := r_neg h c1
        refine lv_aload_n (pc := 15) hx hb dX2_wearPlate_15 rfl (lv_at hl 0 rfl) ?_
        refine va_getN (pc := 16) (ci := 1) (C := RX1) (T := TX1) (N := 4) hx hb hw1 (fun _ h9 => h9) hown hK.1 hP 0 rfl rfl 1 (by decide) (hT _ zw63 _) (fun _ h9 => h9) rfl dX2_wearPlate_16 ?_
        refine lv_iload_n (pc := 19) hx hb dX2_wearPlate_19 rfl (lv_at hl 3 rfl) ?_
        obtain ⟨hb2, h⟩ := r_in h
        refine va_iald (pc := 20) hx hb hK.1 hP 1 0 rfl rfl hb2 dX2_wearPlate_20 ?_
        refine lv_istore (pc := 21) (lv' := [(4, .int (y5_o0_depths x5_3.toNatClampNeg)), (0, .ref a_o0), (1, .int p1), (2, .int p2), (3, .int x5_3)]) hx hb dX2_wearPlate_21 hl (by decide) rfl (fun ls hl => ?_)
        refine lv_iconst (pc := 23) (v := (0 : Int32)) hx hb dX2_wearPlate_23 (by decide) ?_
        refine lv_istore (pc := 24) (lv' := [(5, .int (0 : Int32)), (4, .int (y5_o0_depths x5_3.toNatClampNeg)), (0, .ref a_o0), (1, .int p1), (2, .int p2), (3, .int x5_3)]) hx hb dX2_wearPlate_24 hl (by decide) rfl (fun ls hl => ?_)
        have J26 : ∀ (n26 : Nat) (x26_4 : Int32) (x26_5 : Int32) (H : Heap) (locs : List Loc) (ls : Array Slot), fX2_wearPlate_26 p2 x5_3 y5_o0_depths (fX2_wearPlate_5 p1 p2 n5) n26 x26_4 x26_5 = some u → lv_has ls 6 [(0, .ref a_o0), (1, .int p1), (2, .int p2), (3, .int x5_3), (4, .int x26_4), (5, .int x26_5)] → va_P E.1 vwCl [(a_o0, .inr (1, [.ref a_o0_kinds, .ref a_o0_depths, .ref a_o0_lives, .ref a_o0_stops])), (a_o0_depths, .inl (E.2.1, 108, .inl y5_o0_depths))] H → va_D A [(a_o0, .inr (1, [.ref a_o0_kinds, .ref a_o0_depths, .ref a_o0_lives, .ref a_o0_stops])), (a_o0_depths, .inl (E.2.1, 108, .inl y5_o0_depths))] → va_S A s.heap H locs → W p l e R s m args below meth c H locs 0 0 Q (F0 m 26 ls []) := by
          intro n26
          induction n26 with
          | zero =>
            intro x26_4 x26_5 H locs ls h hl hP hD hS
            rw [fX2_wearPlate_26] at h
            cases h
          | succ n26 ih26 =>
            intro x26_4 x26_5 H locs ls h hl hP hD hS
            rw [fX2_wearPlate_26] at h
            refine lv_iload (pc := 26) hx hb dX2_wearPlate_26 (lv_at hl 5 rfl) ?_
            refine lv_iload_n (pc := 28) hx hb dX2_wearPlate_28 rfl (lv_at hl 2 rfl) ?_
            have J55 : ∀ (H : Heap) (locs : List Loc) (ls : Array Slot), fX2_wearPlate_55 x5_3 y5_o0_depths (fX2_wearPlate_5 p1 p2 n5) x26_4 = some u → lv_has ls 6 [(0, .ref a_o0), (1, .int p1), (2, .int p2), (3, .int x5_3), (4, .int x26_4)] → va_P E.1 vwCl [(a_o0, .inr (1, [.ref a_o0_kinds, .ref a_o0_depths, .ref a_o0_lives, .ref a_o0_stops])), (a_o0_depths, .inl (E.2.1, 108, .inl y5_o0_depths))] H → va_D A [(a_o0, .inr (1, [.ref a_o0_kinds, .ref a_o0_depths, .ref a_o0_lives, .ref a_o0_stops])), (a_o0_depths, .inl (E.2.1, 108, .inl y5_o0_depths))] → va_S A s.heap H locs → W p l e R s m args below meth c H locs 0 0 Q (F0 m 55 ls []) := by
              intro H locs ls h hl hP hD hS
              unfold fX2_wearPlate_55 at h
              refine lv_aload_n (pc := 55) hx hb dX2_wearPlate_55 rfl (lv_at hl 0 rfl) ?_
              refine va_getN (pc := 56) (ci := 1) (C := RX1) (T := TX1) (N := 4) hx hb hw1 (fun _ h9 => h9) hown hK.1 hP 0 rfl rfl 1 (by decide) (hT _ zw63 _) (fun _ h9 => h9) rfl dX2_wearPlate_56 ?_
              refine lv_iload_n (pc := 59) hx hb dX2_wearPlate_59 rfl (lv_at hl 3 rfl) ?_
              refine lv_iload (pc := 60) hx hb dX2_wearPlate_60 (lv_at hl 4 rfl) ?_
              refine va_iast (pc := 62) hx hb hK.1 hP hD hS 1 0 rfl rfl hb2 dX2_wearPlate_62 (fun H locs hP hD hS => ?_)
              have hP : va_P E.1 vwCl [(a_o0, .inr (1, [.ref a_o0_kinds, .ref a_o0_depths, .ref a_o0_lives, .ref a_o0_stops])), (a_o0_depths, .inl (E.2.1, 108, .inl (upd y5_o0_depths x5_3.toNatClampNeg x26_4)))] H := hP
              have hD : va_D A [(a_o0, .inr (1, [.ref a_o0_kinds, .ref a_o0_depths, .ref a_o0_lives, .ref a_o0_stops])), (a_o0_depths, .inl (E.2.1, 108, .inl (upd y5_o0_depths x5_3.toNatClampNeg x26_4)))] := hD
              refine lv_iinc (pc := 63) (v := (x5_3 + (1 : Int32))) (lv' := [(3, .int (x5_3 + (1 : Int32))), (0, .ref a_o0), (1, .int p1), (2, .int p2), (4, .int x26_4)]) hx hb dX2_wearPlate_63 hl (k := 3) rfl rfl (by decide) rfl (fun ls hl => ?_)
              refine lv_goto (pc := 66) (tgt := 5) hx hb dX2_wearPlate_66 (by decide) ?_
              exact ih5 (x5_3 + (1 : Int32)) (upd y5_o0_depths x5_3.toNatClampNeg x26_4) _ _ _ h (lv_sub hl [1, 2, 3, 0] rfl) hP hD hS
            refine lv_icmp_ge (pc := 29) (tgt := 55) hx hb dX2_wearPlate_29 (by decide) (fun c3 => ?_) (fun c3 => ?_)
            · have h := r_pos h c3
              exact J55 _ _ _ h (lv_sub hl [0, 1, 2, 3, 4] rfl) hP hD hS
            · have h := r_neg h c3
              refine lv_iload (pc := 32) hx hb dX2_wearPlate_32 (lv_at hl 4 rfl) ?_
              obtain ⟨u4, hg5, h⟩ := r_bind h
              refine z_callSN (pc := 34) (n := 1) (o := some u4) (As := [.int x26_4]) (rest := []) hx hb hml hown hK hA hP hD hS hl.1 ⟨Nat.zero_le _, Nat.zero_le _⟩ (mt_X4_worn E l x26_4 u4 hg5) zw64 zw14 zw10 zw15 (by decide +kernel) rfl ⟨rfl, rfl, Nat.le_trans (Nat.le_of_ble_eq_true rfl) hRf, Nat.le_trans (Nat.le_of_ble_eq_true rfl) hRl⟩ rfl (Nat.le_of_ble_eq_true rfl) dX2_wearPlate_34 (fun H locs hP hD hS => ?_)
              have hP : va_P E.1 vwCl [(a_o0, .inr (1, [.ref a_o0_kinds, .ref a_o0_depths, .ref a_o0_lives, .ref a_o0_stops])), (a_o0_depths, .inl (E.2.1, 108, .inl y5_o0_depths))] H := hP
              have hD : va_D A [(a_o0, .inr (1, [.ref a_o0_kinds, .ref a_o0_depths, .ref a_o0_lives, .ref a_o0_stops])), (a_o0_depths, .inl (E.2.1, 108, .inl y5_o0_depths))] := hD
              refine lv_iload (pc := 37) hx hb dX2_wearPlate_37 (lv_at hl 4 rfl) ?_
              refine lv_icmp_ge (pc := 39) (tgt := 55) hx hb dX2_wearPlate_39 (by decide) (fun c6 => ?_) (fun c6 => ?_)
              · have h := r_pos h c6
                exact J55 _ _ _ h (lv_sub hl [0, 1, 2, 3, 4] rfl) hP hD hS
              · have h := r_neg h c6
                refine lv_iload (pc := 42) hx hb dX2_wearPlate_42 (lv_at hl 4 rfl) ?_
                obtain ⟨u7, hg8, h⟩ := r_bind h
                refine z_callSN (pc := 44) (n := 1) (o := some u7) (As := [.int x26_4]) (rest := []) hx hb hml hown hK hA hP hD hS hl.1 ⟨Nat.zero_le _, Nat.zero_le _⟩ (mt_X4_worn E l x26_4 u7 hg8) zw64 zw14 zw10 zw15 (by decide +kernel) rfl ⟨rfl, rfl, Nat.le_trans (Nat.le_of_ble_eq_true rfl) hRf, Nat.le_trans (Nat.le_of_ble_eq_true rfl) hRl⟩ rfl (Nat.le_of_ble_eq_true rfl) dX2_wearPlate_44 (fun H locs hP hD hS => ?_)
                have hP : va_P E.1 vwCl [(a_o0, .inr (1, [.ref a_o0_kinds, .ref a_o0_depths, .ref a_o0_lives, .ref a_o0_stops])), (a_o0_depths, .inl (E.2.1, 108, .inl y5_o0_depths))] H := hP
                have hD : va_D A [(a_o0, .inr (1, [.ref a_o0_kinds, .ref a_o0_depths, .ref a_o0_lives, .ref a_o0_stops])), (a_o0_depths, .inl (E.2.1, 108, .inl y5_o0_depths))] := hD
                refine lv_istore (pc := 47) (lv' := [(4, .int u7), (0, .ref a_o0), (1, .int p1), (2, .int p2), (3, .int x5_3), (5, .int x26_5)]) hx hb dX2_wearPlate_47 hl (by decide) rfl (fun ls hl => ?_)
                refine lv_iinc (pc := 49) (v := (x26_5 + (1 : Int32))) (lv' := [(5, .int (x26_5 + (1 : Int32))), (4, .int u7), (0, .ref a_o0), (1, .int p1), (2, .int p2), (3, .int x5_3)]) hx hb dX2_wearPlate_49 hl (k := 5) rfl rfl (by decide) rfl (fun ls hl => ?_)
                refine lv_goto (pc := 52) (tgt := 26) hx hb dX2_wearPlate_52 (by decide) ?_
                exact ih26 u7 (x26_5 + (1 : Int32)) _ _ _ h (lv_sub hl [2, 3, 4, 5, 1, 0] rfl) hP hD hS
        exact J26 _ (y5_o0_depths x5_3.toNatClampNeg) (0 : Int32) _ _ _ h (lv_sub hl [2, 3, 4, 5, 1, 0] rfl) hP hD hS
  exact J5 _ (p1 * (36 : Int32)) v_o0_depths _ _ _ h (lv_sub hl [1, 2, 3, 0] rfl) hP hD hS
def fX2_pullAll_2 (v_t_pulls : Int32) (p2 : Int32) : Nat → Int32 → (Nat → Int32) → (Nat → Int32) → Option ((Nat → Int32) × Int32 × (Nat → Int32))
  | 0, _, _, _ => none
  | n2 + 1, x2_3, y2_t_steels, y2_o1_depths => (if (3 : Int32) ≤ x2_3 then some (y2_t_steels, (v_t_pulls + p2), y2_o1_depths) else (if inb x2_3 3 = true then ((fX2_wearPlate y2_o1_depths x2_3 (p2 - (if (y2_t_steels x2_3.toNatClampNeg) < p2 then (y2_t_steels x2_3.toNatClampNeg) else p2))).bind fun u3 => (fX2_pullAll_2 v_t_pulls p2 n2) (x2_3 + (1 : Int32)) (upd y2_t_steels x2_3.toNatClampNeg ((y2_t_steels x2_3.toNatClampNeg) - (if (y2_t_steels x2_3.toNatClampNeg) < p2 then (y2_t_steels x2_3.toNatClampNeg) else p2))) u3) else none))
def fX2_pullAll (v_t_steels : Nat → Int32) (v_t_pulls : Int32) (v_o1_depths : Nat → Int32) (p2 : Int32) : Option ((Nat → Int32) × Int32 × (Nat → Int32)) := fX2_pullAll_2 v_t_pulls p2 100000 (0 : Int32) v_t_steels v_o1_depths
set_option maxHeartbeats 4000000 in
set_option maxRecDepth 100000 in
theorem mt_X2_pullAll (E : zE) (l : Launch) (a_t : Nat) (a_t_downs : Nat) (a_t_rights : Nat) (a_t_steels : Nat) (a_o1 : Nat) (a_o1_kinds : Nat) (a_o1_depths : Nat) (a_o1_lives : Nat) (a_o1_stops : Nat) (v_t_pulls : Int32) (v_t_steels : Nat → Int32) (v_o1_depths : Nat → Int32) (p2 : Int32) (u : (Nat → Int32) × Int32 × (Nat → Int32)) (hf : fX2_pullAll v_t_steels v_t_pulls v_o1_depths p2 = some u)   : zM E l yX2_pullAll [.code yX2_pullAll cX2_pullAll 5 none] { frames := 2, cells := 0, slots := 0, locals := 45 } [.ref a_t, .ref a_o1, .int p2] [(a_t, .inr (2, [.ref a_t_downs, .ref a_t_rights, .ref a_t_steels, .int v_t_pulls])), (a_t_steels, .inl (E.2.1, 3, .inl v_t_steels)), (a_o1, .inr (1, [.ref a_o1_kinds, .ref a_o1_depths, .ref a_o1_lives, .ref a_o1_stops])), (a_o1_depths, .inl (E.2.1, 108, .inl v_o1_depths))] (none) [(a_t, .inr (2, [.ref a_t_downs, .ref a_t_rights, .ref a_t_steels, .int u.2.1])), (a_t_steels, .inl (E.2.1, 3, .inl u.1)), (a_o1, .inr (1, [.ref a_o1_kinds, .ref a_o1_depths, .ref a_o1_lives, .ref a_o1_stops])), (a_o1_depths, .inl (E.2.1, 108, .inl u.2.2))] := by
  refine zM_void (cc := cX2_pullAll) (nL := 5) (by decide) (Nat.le_of_ble_eq_true rfl) ?_
  intro p e R s m args below meth c A Q ls hRf hRl hx hb hml hown hK hA hP hD hS hl ret
  have hT := hK.2
  have hown : s.vm.findClass RX2 = some m.cls := hown
  have hl : lv_has ls 5 [(0, .ref a_t), (1, .ref a_o1), (2, .int p2)] := hl
  have hw2 : ∀ w ∈ u_ws RX2 TX2 4, w.before args s = true := fun w h => hT w (zl_X2 w h) args
  have h := hf
  unfold fX2_pullAll at h
  refine lv_iconst (pc := 0) (v := (0 : Int32)) hx hb dX2_pullAll_0 (by decide) ?_
  refine lv_istore_n (pc := 1) (lv' := [(3, .int (0 : Int32)), (0, .ref a_t), (1, .ref a_o1), (2, .int p2)]) hx hb dX2_pullAll_1 rfl hl (by decide) rfl (fun ls hl => ?_)
  have J2 : ∀ (n2 : Nat) (x2_3 : Int32) (y2_t_steels : Nat → Int32) (y2_o1_depths : Nat → Int32) (H : Heap) (locs : List Loc) (ls : Array Slot), fX2_pullAll_2 v_t_pulls p2 n2 x2_3 y2_t_steels y2_o1_depths = some u → lv_has ls 5 [(0, .ref a_t), (1, .ref a_o1), (2, .int p2), (3, .int x2_3)] → va_P E.1 vwCl [(a_t, .inr (2, [.ref a_t_downs, .ref a_t_rights, .ref a_t_steels, .int v_t_pulls])), (a_t_steels, .inl (E.2.1, 3, .inl y2_t_steels)), (a_o1, .inr (1, [.ref a_o1_kinds, .ref a_o1_depths, .ref a_o1_lives, .ref a_o1_stops])), (a_o1_depths, .inl (E.2.1, 108, .inl y2_o1_depths))] H → va_D A [(a_t, .inr (2, [.ref a_t_downs, .ref a_t_rights, .ref a_t_steels, .int v_t_pulls])), (a_t_steels, .inl (E.2.1, 3, .inl y2_t_steels)), (a_o1, .inr (1, [.ref a_o1_kinds, .ref a_o1_depths, .ref a_o1_lives, .ref a_o1_stops])), (a_o1_depths, .inl (E.2.1, 108, .inl y2_o1_depths))] → va_S A s.heap H locs → W p l e R s m args below meth c H locs 0 0 Q (F0 m 2 ls []) := by
    intro n2
    induction n2 with
    | zero =>
      intro x2_3 y2_t_steels y2_o1_depths H locs ls h hl hP hD hS
      rw [fX2_pullAll_2] at h
      cases h
    | succ n2 ih2 =>
      intro x2_3 y2_t_steels y2_o1_depths H locs ls h hl hP hD hS
      rw [fX2_pullAll_2] at h
      refine lv_iload_n (pc := 2) hx hb dX2_pullAll_2 rfl (lv_at hl 3 rfl) ?_
      refine lv_iconst (pc := 3) (v := (3 : Int32)) hx hb dX2_pullAll_3 (by decide) ?_
      refine lv_icmp_ge (pc := 4) (tgt := 45) hx hb dX2_pullAll_4 (by decide) (fun c1 => ?_) (fun c1 => ?_)
      · have h := r_pos h c1
        refine lv_aload_n (pc := 45) hx hb dX2_pullAll_45 rfl (lv_at hl 0 rfl) ?_
        refine lv_dup (pc := 46) hx hb dX2_pullAll_46 rfl ?_
        refine va_get (pc := 47) (ci := 2) (C := RX2) (T := TX2) (N := 4) hx hb hw2 (fun _ h9 => h9) hown hK.1 hP 0 rfl rfl 3 (by decide) (hT _ zw65 _) (fun _ h9 => h9) rfl dX2_pullAll_47 ?_
        refine lv_iload_n (pc := 50) hx hb dX2_pullAll_50 rfl (lv_at hl 2 rfl) ?_
        refine lv_iadd (pc := 51) hx hb dX2_pullAll_51 ?_
        refine va_put (pc := 52) (ci := 2) (v := .int (v_t_pulls + p2)) (ty := .int) (C := RX2) (T := TX2) (N := 4) hx hb hw2 (fun _ h9 => h9) tyX2 tyX2_ok nmX2 hown hK.1 hP hD hS 0 rfl rfl 3 (by decide) (hT _ zw65 _) (fun _ h9 => h9) rfl (tyX2_ok 3 (by decide)) rfl rfl (Nat.le_of_ble_eq_true rfl) dX2_pullAll_52 (fun H locs hP hD hS => ?_)
        have hP : va_P E.1 vwCl [(a_t, .inr (2, [.ref a_t_downs, .ref a_t_rights, .ref a_t_steels, .int (v_t_pulls + p2)])), (a_t_steels, .inl (E.2.1, 3, .inl y2_t_steels)), (a_o1, .inr (1, [.ref a_o1_kinds, .ref a_o1_depths, .ref a_o1_lives, .ref a_o1_stops])), (a_o1_depths, .inl (E.2.1, 108, .inl y2_o1_depths))] H := hP
        have hD : va_D A [(a_t, .inr (2, [.ref a_t_downs, .ref a_t_rights, .ref a_t_steels, .int (v_t_pulls + p2)])), (a_t_steels, .inl (E.2.1, 3, .inl y2_t_steels)), (a_o1, .inr (1, [.ref a_o1_kinds, .ref a_o1_depths, .ref a_o1_lives, .ref a_o1_stops])), (a_o1_depths, .inl (E.2.1, 108, .inl y2_o1_depths))] := hD
        obtain rfl := Option.some.inj h
        exact ret _ _ 55 _ dX2_pullAll_55 hP hD hS
      · have h := r_neg h c1
        refine lv_iload_n (pc := 7) hx hb dX2_pullAll_7 rfl (lv_at hl 2 rfl) ?_
        refine lv_aload_n (pc := 8) hx hb dX2_pullAll_8 rfl (lv_at hl 0 rfl) ?_
        refine va_get (pc := 9) (ci := 2) (C := RX2) (T := TX2) (N := 4) hx hb hw2 (fun _ h9 => h9) hown hK.1 hP 0 rfl rfl 2 (by decide) (hT _ zw66 _) (fun _ h9 => h9) rfl dX2_pullAll_9 ?_
        refine lv_iload_n (pc := 12) hx hb dX2_pullAll_12 rfl (lv_at hl 3 rfl) ?_
        obtain ⟨hb2, h⟩ := r_in h
        refine va_iald (pc := 13) hx hb hK.1 hP 1 0 rfl rfl hb2 dX2_pullAll_13 ?_
        refine va_mmin (pc := 14) hx hb (by rw [hml]; exact hl.1.symm) hown (hT _ zw67 _) (hT _ zw5 _) (hT _ zw6 _) (hT _ zw7 _) (Nat.le_trans (Nat.le_of_ble_eq_true rfl) hRf) (Nat.le_trans (Nat.le_of_ble_eq_true rfl) hRl) (Nat.zero_le _) (Nat.zero_le _) dX2_pullAll_14 ?_
        refine lv_istore (pc := 17) (lv' := [(4, .int (if (y2_t_steels x2_3.toNatClampNeg) < p2 then (y2_t_steels x2_3.toNatClampNeg) else p2)), (0, .ref a_t), (1, .ref a_o1), (2, .int p2), (3, .int x2_3)]) hx hb dX2_pullAll_17 hl (by decide) rfl (fun ls hl => ?_)
        refine lv_aload_n (pc := 19) hx hb dX2_pullAll_19 rfl (lv_at hl 1 rfl) ?_
        refine va_get (pc := 20) (ci := 2) (C := RX2) (T := TX2) (N := 4) hx hb hw2 (fun _ h9 => h9) hown hK.1 hP 0 rfl rfl 2 (by decide) (hT _ zw66 _) (fun _ h9 => h9) rfl dX2_pullAll_20 ?_
        refine lv_iload_n (pc := 23) hx hb dX2_pullAll_23 rfl (lv_at hl 4 rfl) ?_
        refine lv_dup2_11 (pc := 24) hx hb dX2_pullAll_24 rfl rfl ?_
        refine va_iald (pc := 25) hx hb hK.1 hP 1 0 rfl rfl hb2 dX2_pullAll_25 ?_
        refine lv_iload (pc := 26) hx hb dX2_pullAll_26 (lv_at hl 0 rfl) ?_
        refine lv_isub (pc := 28) hx hb dX2_pullAll_28 ?_
        refine va_iast (pc := 29) hx hb hK.1 hP hD hS 1 0 rfl rfl hb2 dX2_pullAll_29 (fun H locs hP hD hS => ?_)
        have hP : va_P E.1 vwCl [(a_t, .inr (2, [.ref a_t_downs, .ref a_t_rights, .ref a_t_steels, .int v_t_pulls])), (a_t_steels, .inl (E.2.1, 3, .inl (upd y2_t_steels x2_3.toNatClampNeg ((y2_t_steels x2_3.toNatClampNeg) - (if (y2_t_steels x2_3.toNatClampNeg) < p2 then (y2_t_steels x2_3.toNatClampNeg) else p2))))), (a_o1, .inr (1, [.ref a_o1_kinds, .ref a_o1_depths, .ref a_o1_lives, .ref a_o1_stops])), (a_o1_depths, .inl (E.2.1, 108, .inl y2_o1_depths))] H := hP
        have hD : va_D A [(a_t, .inr (2, [.ref a_t_downs, .ref a_t_rights, .ref a_t_steels, .int v_t_pulls])), (a_t_steels, .inl (E.2.1, 3, .inl (upd y2_t_steels x2_3.toNatClampNeg ((y2_t_steels x2_3.toNatClampNeg) - (if (y2_t_steels x2_3.toNatClampNeg) < p2 then (y2_t_steels x2_3.toNatClampNeg) else p2))))), (a_o1, .inr (1, [.ref a_o1_kinds, .ref a_o1_depths, .ref a_o1_lives, .ref a_o1_stops])), (a_o1_depths, .inl (E.2.1, 108, .inl y2_o1_depths))] := hD
        refine lv_aload_n (pc := 30) hx hb dX2_pullAll_30 rfl (lv_at hl 2 rfl) ?_
        refine lv_iload_n (pc := 31) hx hb dX2_pullAll_31 rfl (lv_at hl 4 rfl) ?_
        refine lv_iload_n (pc := 32) hx hb dX2_pullAll_32 rfl (lv_at hl 3 rfl) ?_
        refine lv_iload (pc := 33) hx hb dX2_pullAll_33 (lv_at hl 0 rfl) ?_
        refine lv_isub (pc := 35) hx hb dX2_pullAll_35 ?_
        obtain ⟨u3, hg4, h⟩ := r_bind h
        refine z_callSW (pc := 36) (n := 3) (o := none) (As := [.ref a_o1, .int x2_3, .int (p2 - (if (y2_t_steels x2_3.toNatClampNeg) < p2 then (y2_t_steels x2_3.toNatClampNeg) else p2))]) (rest := []) (wc := [(a_o1, .inr (1, [.ref a_o1_kinds, .ref a_o1_depths, .ref a_o1_lives, .ref a_o1_stops])), (a_o1_depths, .inl (E.2.1, 108, .inl y2_o1_depths))]) (wc' := [(a_o1, .inr (1, [.ref a_o1_kinds, .ref a_o1_depths, .ref a_o1_lives, .ref a_o1_stops])), (a_o1_depths, .inl (E.2.1, 108, .inl u3))]) (wr := [(a_t, .inr (2, [.ref a_t_downs, .ref a_t_rights, .ref a_t_steels, .int v_t_pulls])), (a_t_steels, .inl (E.2.1, 3, .inl (upd y2_t_steels x2_3.toNatClampNeg ((y2_t_steels x2_3.toNatClampNeg) - (if (y2_t_steels x2_3.toNatClampNeg) < p2 then (y2_t_steels x2_3.toNatClampNeg) else p2)))))]) hx hb hml hown hK hA hP hD hS hl.1 ⟨Nat.zero_le _, Nat.zero_le _⟩ (mt_X2_wearPlate E l a_o1 a_o1_kinds a_o1_depths a_o1_lives a_o1_stops y2_o1_depths x2_3 (p2 - (if (y2_t_steels x2_3.toNatClampNeg) < p2 then (y2_t_steels x2_3.toNatClampNeg) else p2)) u3 hg4) zw68 zw69 zw57 zw70 (by decide +kernel) rfl ⟨rfl, rfl, Nat.le_trans (Nat.le_of_ble_eq_true rfl) hRf, Nat.le_trans (Nat.le_of_ble_eq_true rfl) hRl⟩ [2, 3] [0, 1] (by decide) rfl rfl rfl (by decide) (by decide) rfl (Nat.le_of_ble_eq_true rfl) dX2_pullAll_36 (fun H locs hP hD hS => ?_)
        have hP : va_P E.1 vwCl [(a_t, .inr (2, [.ref a_t_downs, .ref a_t_rights, .ref a_t_steels, .int v_t_pulls])), (a_t_steels, .inl (E.2.1, 3, .inl (upd y2_t_steels x2_3.toNatClampNeg ((y2_t_steels x2_3.toNatClampNeg) - (if (y2_t_steels x2_3.toNatClampNeg) < p2 then (y2_t_steels x2_3.toNatClampNeg) else p2))))), (a_o1, .inr (1, [.ref a_o1_kinds, .ref a_o1_depths, .ref a_o1_lives, .ref a_o1_stops])), (a_o1_depths, .inl (E.2.1, 108, .inl u3))] H := hP
        have hD : va_D A [(a_t, .inr (2, [.ref a_t_downs, .ref a_t_rights, .ref a_t_steels, .int v_t_pulls])), (a_t_steels, .inl (E.2.1, 3, .inl (upd y2_t_steels x2_3.toNatClampNeg ((y2_t_steels x2_3.toNatClampNeg) - (if (y2_t_steels x2_3.toNatClampNeg) < p2 then (y2_t_steels x2_3.toNatClampNeg) else p2))))), (a_o1, .inr (1, [.ref a_o1_kinds, .ref a_o1_depths, .ref a_o1_lives, .ref a_o1_stops])), (a_o1_depths, .inl (E.2.1, 108, .inl u3))] := hD
        refine lv_iinc (pc := 39) (v := (x2_3 + (1 : Int32))) (lv' := [(3, .int (x2_3 + (1 : Int32))), (4, .int (if (y2_t_steels x2_3.toNatClampNeg) < p2 then (y2_t_steels x2_3.toNatClampNeg) else p2)), (0, .ref a_t), (1, .ref a_o1), (2, .int p2)]) hx hb dX2_pullAll_39 hl (k := 4) rfl rfl (by decide) rfl (fun ls hl => ?_)
        refine lv_goto (pc := 42) (tgt := 2) hx hb dX2_pullAll_42 (by decide) ?_
        exact ih2 (x2_3 + (1 : Int32)) (upd y2_t_steels x2_3.toNatClampNeg ((y2_t_steels x2_3.toNatClampNeg) - (if (y2_t_steels x2_3.toNatClampNeg) < p2 then (y2_t_steels x2_3.toNatClampNeg) else p2))) u3 _ _ _ h (lv_sub hl [2, 3, 4, 0] rfl) hP hD hS
  exact J2 _ (0 : Int32) v_t_steels v_o1_depths _ _ _ h (lv_sub hl [1, 2, 3, 0] rfl) hP hD hS
