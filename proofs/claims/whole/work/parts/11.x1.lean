def fX1_layGround_23 (v_t_kinds : Nat → Int32) (v_t_lives : Nat → Int32) (p1 : Int32) (p2 : Int32) (s23_2 : Int32) : Option ((Nat → Int32) × (Nat → Int32)) := some ((upd v_t_kinds p1.toNatClampNeg p2), (upd v_t_lives p1.toNatClampNeg s23_2))
def fX1_layGround (v_t_kinds : Nat → Int32) (v_t_lives : Nat → Int32) (p1 : Int32) (p2 : Int32) : Option ((Nat → Int32) × (Nat → Int32)) := (if inb p1 108 = true then (if p2 = (2 : Int32) then fX1_layGround_23 v_t_kinds v_t_lives p1 p2 (60 : Int32) else fX1_layGround_23 v_t_kinds v_t_lives p1 p2 (0 : Int32)) else none)
set_option maxHeartbeats 4000000 in
set_option maxRecDepth 100000 in
theorem mt_X1_layGround (E : zE) (l : Launch) (a_t : Nat) (a_t_kinds : Nat) (a_t_depths : Nat) (a_t_lives : Nat) (a_t_stops : Nat) (v_t_kinds : Nat → Int32) (v_t_lives : Nat → Int32) (p1 : Int32) (p2 : Int32) (u : (Nat → Int32) × (Nat → Int32)) (hf : fX1_layGround v_t_kinds v_t_lives p1 p2 = some u)   : zM E l yX1_layGround [.code yX1_layGround cX1_layGround 3 none] { frames := 0, cells := 0, slots := 0, locals := 0 } [.ref a_t, .int p1, .int p2] [(a_t, .inr (1, [.ref a_t_kinds, .ref a_t_depths, .ref a_t_lives, .ref a_t_stops])), (a_t_kinds, .inl (E.2.1, 108, .inl v_t_kinds)), (a_t_lives, .inl (E.2.1, 108, .inl v_t_lives))] (none) [(a_t, .inr (1, [.ref a_t_kinds, .ref a_t_depths, .ref a_t_lives, .ref a_t_stops])), (a_t_kinds, .inl (E.2.1, 108, .inl u.1)), (a_t_lives, .inl (E.2.1, 108, .inl u.2))] := by
  refine zM_void (cc := cX1_layGround) (nL := 3) (by decide) (Nat.le_of_ble_eq_true rfl) ?_
  intro p e R s m args below meth c A Q ls hRf hRl hx hb hml hown hK hA hP hD hS hl ret
  have hT := hK.2
  have hown : s.vm.findClass RX1 = some m.cls := hown
  have hl : lv_has ls 3 [(0, .ref a_t), (1, .int p1), (2, .int p2)] := hl
  have hw1 : ∀ w ∈ u_ws RX1 TX1 4, w.before args s = true := fun w h => hT w (zl_X1 w h) args
  have h := hf
  unfold fX1_layGround at h
  refine lv_aload_n (pc := 0) hx hb dX1_layGround_0 rfl (lv_at hl 0 rfl) ?_
  refine va_get (pc := 1) (ci := 1) (C := RX1) (T := TX1) (N := 4) hx hb hw1 (fun _ h9 => h9) hown hK.1 hP 0 rfl rfl 0 (by decide) (hT _ zw22 _) (fun _ h9 => h9) rfl dX1_layGround_1 ?_
  refine lv_iload_n (pc := 4) hx hb dX1_layGround_4 rfl (lv_at hl 1 rfl) ?_
  refine lv_iload_n (pc := 5) hx hb dX1_layGround_5 rfl (lv_at hl 2 rfl) ?_
  obtain ⟨hb1, h⟩ := r_in h
  refine va_iast (pc := 6) hx hb hK.1 hP hD hS 1 0 rfl rfl hb1 dX1_layGround_6 (fun H locs hP hD hS => ?_)
  have hP : va_P E.1 vwCl [(a_t, .inr (1, [.ref a_t_kinds, .ref a_t_depths, .ref a_t_lives, .ref a_t_stops])), (a_t_kinds, .inl (E.2.1, 108, .inl (upd v_t_kinds p1.toNatClampNeg p2))), (a_t_lives, .inl (E.2.1, 108, .inl v_t_lives))] H := hP
  have hD : va_D A [(a_t, .inr (1, [.ref a_t_kinds, .ref a_t_depths, .ref a_t_lives, .ref a_t_stops])), (a_t_kinds, .inl (E.2.1, 108, .inl (upd v_t_kinds p1.toNatClampNeg p2))), (a_t_lives, .inl (E.2.1, 108, .inl v_t_lives))] := hD
  refine lv_aload_n (pc := 7) hx hb dX1_layGround_7 rfl (lv_at hl 0 rfl) ?_
  refine va_get (pc := 8) (ci := 1) (C := RX1) (T := TX1) (N := 4) hx hb hw1 (fun _ h9 => h9) hown hK.1 hP 0 rfl rfl 2 (by decide) (hT _ zw23 _) (fun _ h9 => h9) rfl dX1_layGround_8 ?_
  refine lv_iload_n (pc := 11) hx hb dX1_layGround_11 rfl (lv_at hl 1 rfl) ?_
  refine lv_iload_n (pc := 12) hx hb dX1_layGround_12 rfl (lv_at hl 2 rfl) ?_
  refine lv_iconst (pc := 13) (v := (2 : Int32)) hx hb dX1_layGround_13 (by decide) ?_
  have J23 : ∀ (s23_2 : Int32) (H : Heap) (locs : List Loc) (ls : Array Slot), fX1_layGround_23 v_t_kinds v_t_lives p1 p2 s23_2 = some u → lv_has ls 3 [] → va_P E.1 vwCl [(a_t, .inr (1, [.ref a_t_kinds, .ref a_t_depths, .ref a_t_lives, .ref a_t_stops])), (a_t_kinds, .inl (E.2.1, 108, .inl (upd v_t_kinds p1.toNatClampNeg p2))), (a_t_lives, .inl (E.2.1, 108, .inl v_t_lives))] H → va_D A [(a_t, .inr (1, [.ref a_t_kinds, .ref a_t_depths, .ref a_t_lives, .ref a_t_stops])), (a_t_kinds, .inl (E.2.1, 108, .inl (upd v_t_kinds p1.toNatClampNeg p2))), (a_t_lives, .inl (E.2.1, 108, .inl v_t_lives))] → va_S A s.heap H locs → W p l e R s m args below meth c H locs 0 0 Q (F0 m 23 ls [.int s23_2, .int p1, .ref a_t_lives]) := by
    intro s23_2 H locs ls h hl hP hD hS
    unfold fX1_layGround_23 at h
    refine va_iast (pc := 23) hx hb hK.1 hP hD hS 2 0 rfl rfl hb1 dX1_layGround_23 (fun H locs hP hD hS => ?_)
    have hP : va_P E.1 vwCl [(a_t, .inr (1, [.ref a_t_kinds, .ref a_t_depths, .ref a_t_lives, .ref a_t_stops])), (a_t_kinds, .inl (E.2.1, 108, .inl (upd v_t_kinds p1.toNatClampNeg p2))), (a_t_lives, .inl (E.2.1, 108, .inl (upd v_t_lives p1.toNatClampNeg s23_2)))] H := hP
    have hD : va_D A [(a_t, .inr (1, [.ref a_t_kinds, .ref a_t_depths, .ref a_t_lives, .ref a_t_stops])), (a_t_kinds, .inl (E.2.1, 108, .inl (upd v_t_kinds p1.toNatClampNeg p2))), (a_t_lives, .inl (E.2.1, 108, .inl (upd v_t_lives p1.toNatClampNeg s23_2)))] := hD
    obtain rfl := Option.some.inj h
    exact ret _ _ 24 _ dX1_layGround_24 hP hD hS
  refine lv_icmp_ne (pc := 14) (tgt := 22) hx hb dX1_layGround_14 (by decide) (fun c2 => ?_) (fun c2 => ?_)
  · have h := r_neg h c2
    refine lv_iconst (pc := 22) (v := (0 : Int32)) hx hb dX1_layGround_22 (by decide) ?_
    exact J23 (0 : Int32) _ _ _ h (lv_sub hl [] rfl) hP hD hS
  · have h := r_pos h c2
    refine lv_bipush (pc := 17) (v := (60 : Int32)) hx hb dX1_layGround_17 (by decide) ?_
    refine lv_goto (pc := 19) (tgt := 23) hx hb dX1_layGround_19 (by decide) ?_
    exact J23 (60 : Int32) _ _ _ h (lv_sub hl [] rfl) hP hD hS
def fX1_toneAt (v_t_depths : Nat → Int32) (p1 : Int32) : Option (Int32) := (if inb p1 108 = true then ((fX4_toneOf (v_t_depths p1.toNatClampNeg)).bind fun u2 => some u2) else none)
set_option maxHeartbeats 4000000 in
set_option maxRecDepth 100000 in
theorem mt_X1_toneAt (E : zE) (l : Launch) (a_t : Nat) (a_t_kinds : Nat) (a_t_depths : Nat) (a_t_lives : Nat) (a_t_stops : Nat) (v_t_depths : Nat → Int32) (p1 : Int32) (u : Int32) (hf : fX1_toneAt v_t_depths p1 = some u)   : zM E l yX1_toneAt [.code yX1_toneAt cX1_toneAt 2 (some .int)] { frames := 2, cells := 0, slots := 0, locals := 33 } [.ref a_t, .int p1] [(a_t, .inr (1, [.ref a_t_kinds, .ref a_t_depths, .ref a_t_lives, .ref a_t_stops])), (a_t_depths, .inl (E.2.1, 108, .inl v_t_depths))] (some u) [(a_t, .inr (1, [.ref a_t_kinds, .ref a_t_depths, .ref a_t_lives, .ref a_t_stops])), (a_t_depths, .inl (E.2.1, 108, .inl v_t_depths))] := by
  refine zM_int (ty := .int) (cc := cX1_toneAt) (nL := 2) (by decide) (Nat.le_of_ble_eq_true rfl) ?_
  intro p e R s m args below meth c A Q ls hRf hRl hx hb hml hown hK hA hP hD hS hl ret
  have hT := hK.2
  have hown : s.vm.findClass RX1 = some m.cls := hown
  have hl : lv_has ls 2 [(0, .ref a_t), (1, .int p1)] := hl
  have hw1 : ∀ w ∈ u_ws RX1 TX1 4, w.before args s = true := fun w h => hT w (zl_X1 w h) args
  have h := hf
  unfold fX1_toneAt at h
  refine lv_aload_n (pc := 0) hx hb dX1_toneAt_0 rfl (lv_at hl 0 rfl) ?_
  refine va_get (pc := 1) (ci := 1) (C := RX1) (T := TX1) (N := 4) hx hb hw1 (fun _ h9 => h9) hown hK.1 hP 0 rfl rfl 1 (by decide) (hT _ zw24 _) (fun _ h9 => h9) rfl dX1_toneAt_1 ?_
  refine lv_iload_n (pc := 4) hx hb dX1_toneAt_4 rfl (lv_at hl 1 rfl) ?_
  obtain ⟨hb1, h⟩ := r_in h
  refine va_iald (pc := 5) hx hb hK.1 hP 1 0 rfl rfl hb1 dX1_toneAt_5 ?_
  obtain ⟨u2, hg3, h⟩ := r_bind h
  refine z_callSN (pc := 6) (n := 1) (o := some u2) (As := [.int (v_t_depths p1.toNatClampNeg)]) (rest := []) hx hb hml hown hK hA hP hD hS hl.1 ⟨Nat.zero_le _, Nat.zero_le _⟩ (mt_X4_toneOf E l (v_t_depths p1.toNatClampNeg) u2 hg3) zw25 zw9 zw10 zw11 (by decide +kernel) rfl ⟨rfl, rfl, Nat.le_trans (Nat.le_of_ble_eq_true rfl) hRf, Nat.le_trans (Nat.le_of_ble_eq_true rfl) hRl⟩ rfl (Nat.le_of_ble_eq_true rfl) dX1_toneAt_6 (fun H locs hP hD hS => ?_)
  have hP : va_P E.1 vwCl [(a_t, .inr (1, [.ref a_t_kinds, .ref a_t_depths, .ref a_t_lives, .ref a_t_stops])), (a_t_depths, .inl (E.2.1, 108, .inl v_t_depths))] H := hP
  have hD : va_D A [(a_t, .inr (1, [.ref a_t_kinds, .ref a_t_depths, .ref a_t_lives, .ref a_t_stops])), (a_t_depths, .inl (E.2.1, 108, .inl v_t_depths))] := hD
  obtain rfl := Option.some.inj h
  exact ret _ _ 9 _ rfl dX1_toneAt_9 hP hD hS
def fX1_timesBite (v_t_kinds : Nat → Int32) (v_t_lives : Nat → Int32) (p1 : Int32) : Option (Int32) := (if inb p1 108 = true then (if (v_t_kinds p1.toNatClampNeg) = (1 : Int32) then some (2 : Int32) else (if (v_t_kinds p1.toNatClampNeg) = (2 : Int32) then (if (v_t_lives p1.toNatClampNeg) ≤ 0 then some (0 : Int32) else some (3 : Int32)) else some (1 : Int32))) else none)
set_option maxHeartbeats 4000000 in
set_option maxRecDepth 100000 in
theorem mt_X1_timesBite (E : zE) (l : Launch) (a_t : Nat) (a_t_kinds : Nat) (a_t_depths : Nat) (a_t_lives : Nat) (a_t_stops : Nat) (v_t_kinds : Nat → Int32) (v_t_lives : Nat → Int32) (p1 : Int32) (u : Int32) (hf : fX1_timesBite v_t_kinds v_t_lives p1 = some u)   : zM E l yX1_timesBite [.code yX1_timesBite cX1_timesBite 2 (some .int)] { frames := 0, cells := 0, slots := 0, locals := 0 } [.ref a_t, .int p1] [(a_t, .inr (1, [.ref a_t_kinds, .ref a_t_depths, .ref a_t_lives, .ref a_t_stops])), (a_t_kinds, .inl (E.2.1, 108, .inl v_t_kinds)), (a_t_lives, .inl (E.2.1, 108, .inl v_t_lives))] (some u) [(a_t, .inr (1, [.ref a_t_kinds, .ref a_t_depths, .ref a_t_lives, .ref a_t_stops])), (a_t_kinds, .inl (E.2.1, 108, .inl v_t_kinds)), (a_t_lives, .inl (E.2.1, 108, .inl v_t_lives))] := by
  refine zM_int (ty := .int) (cc := cX1_timesBite) (nL := 2) (by decide) (Nat.le_of_ble_eq_true rfl) ?_
  intro p e R s m args below meth c A Q ls hRf hRl hx hb hml hown hK hA hP hD hS hl ret
  have hT := hK.2
  have hown : s.vm.findClass RX1 = some m.cls := hown
  have hl : lv_has ls 2 [(0, .ref a_t), (1, .int p1)] := hl
  have hw1 : ∀ w ∈ u_ws RX1 TX1 4, w.before args s = true := fun w h => hT w (zl_X1 w h) args
  have h := hf
  unfold fX1_timesBite at h
  refine lv_aload_n (pc := 0) hx hb dX1_timesBite_0 rfl (lv_at hl 0 rfl) ?_
  refine va_get (pc := 1) (ci := 1) (C := RX1) (T := TX1) (N := 4) hx hb hw1 (fun _ h9 => h9) hown hK.1 hP 0 rfl rfl 0 (by decide) (hT _ zw22 _) (fun _ h9 => h9) rfl dX1_timesBite_1 ?_
  refine lv_iload_n (pc := 4) hx hb dX1_timesBite_4 rfl (lv_at hl 1 rfl) ?_
  obtain ⟨hb1, h⟩ := r_in h
  refine va_iald (pc := 5) hx hb hK.1 hP 1 0 rfl rfl hb1 dX1_timesBite_5 ?_
  by_cases c2 : (v_t_kinds p1.toNatClampNeg) = (1 : Int32)
  · have h := r_pos h c2
    refine lv_lookup (pc := 6) (tgt := 32) (off := 26) hx hb dX1_timesBite_6 (by decide) (by rw [c2]; decide) (by decide) ?_
    refine lv_iconst (pc := 32) (v := (2 : Int32)) hx hb dX1_timesBite_32 (by decide) ?_
    obtain rfl := Option.some.inj h
    exact ret _ _ 33 _ rfl dX1_timesBite_33 hP hD hS
  · have h := r_neg h c2
    by_cases c3 : (v_t_kinds p1.toNatClampNeg) = (2 : Int32)
    · have h := r_pos h c3
      refine lv_lookup (pc := 6) (tgt := 34) (off := 28) hx hb dX1_timesBite_6 (by decide) (by rw [c3]; decide) (by decide) ?_
      refine lv_aload_n (pc := 34) hx hb dX1_timesBite_34 rfl (lv_at hl 0 rfl) ?_
      refine va_get (pc := 35) (ci := 1) (C := RX1) (T := TX1) (N := 4) hx hb hw1 (fun _ h9 => h9) hown hK.1 hP 0 rfl rfl 2 (by decide) (hT _ zw23 _) (fun _ h9 => h9) rfl dX1_timesBite_35 ?_
      refine lv_iload_n (pc := 38) hx hb dX1_timesBite_38 rfl (lv_at hl 1 rfl) ?_
      refine va_iald (pc := 39) hx hb hK.1 hP 2 0 rfl rfl hb1 dX1_timesBite_39 ?_
      refine lv_if_le (pc := 40) (tgt := 47) hx hb dX1_timesBite_40 (by decide) (fun c4 => ?_) (fun c4 => ?_)
      · have h := r_pos h c4
        refine lv_iconst (pc := 47) (v := (0 : Int32)) hx hb dX1_timesBite_47 (by decide) ?_
        obtain rfl := Option.some.inj h
        exact ret _ _ 48 _ rfl dX1_timesBite_48 hP hD hS
      · have h := r_neg h c4
        refine lv_iconst (pc := 43) (v := (3 : Int32)) hx hb dX1_timesBite_43 (by decide) ?_
        refine lv_goto (pc := 44) (tgt := 48) hx hb dX1_timesBite_44 (by decide) ?_
        obtain rfl := Option.some.inj h
        exact ret _ _ 48 _ rfl dX1_timesBite_48 hP hD hS
    · have h := r_neg h c3
      refine lv_lookup (pc := 6) (tgt := 49) (off := 43) hx hb dX1_timesBite_6 (by decide) (by have e1 := zt_ne (z := 1) rfl c2; have e2 := zt_ne (z := 2) rfl c3; simp [Op.lookupswitch.offset, Ne.symm e1, Ne.symm e2]) (by decide) ?_
      refine lv_iconst (pc := 49) (v := (1 : Int32)) hx hb dX1_timesBite_49 (by decide) ?_
      obtain rfl := Option.some.inj h
      exact ret _ _ 50 _ rfl dX1_timesBite_50 hP hD hS
def fX1_cleanPlate_36 (x7_3 : Int32) (k7 : Int32 → Int32 → (Nat → Int32) → Option (Int32 × (Nat → Int32))) (x36_2 : Int32) (y36_t_stops : Nat → Int32) : Option (Int32 × (Nat → Int32)) := k7 x36_2 (x7_3 + (1 : Int32)) y36_t_stops
def fX1_cleanPlate_7 (p1 : Int32) : Nat → Int32 → Int32 → (Nat → Int32) → Option (Int32 × (Nat → Int32))
  | 0, _, _, _ => none
  | n7 + 1, x7_2, x7_3, y7_t_stops => (if ((p1 + (1 : Int32)) * (36 : Int32)) ≤ x7_3 then some (x7_2, y7_t_stops) else (if inb x7_3 108 = true then (if (y7_t_stops x7_3.toNatClampNeg) = 0 then fX1_cleanPlate_36 x7_3 (fX1_cleanPlate_7 p1 n7) x7_2 y7_t_stops else fX1_cleanPlate_36 x7_3 (fX1_cleanPlate_7 p1 n7) (x7_2 + (1 : Int32)) (upd y7_t_stops x7_3.toNatClampNeg ((0 : Int32) &&& (1 : Int32)))) else none))
def fX1_cleanPlate (v_t_stops : Nat → Int32) (p1 : Int32) : Option (Int32 × (Nat → Int32)) := fX1_cleanPlate_7 p1 100000 (0 : Int32) (p1 * (36 : Int32)) v_t_stops
set_option maxHeartbeats 4000000 in
set_option maxRecDepth 100000 in
theorem mt_X1_cleanPlate (E : zE) (l : Launch) (a_t : Nat) (a_t_kinds : Nat) (a_t_depths : Nat) (a_t_lives : Nat) (a_t_stops : Nat) (v_t_stops : Nat → Int32) (p1 : Int32) (u : Int32 × (Nat → Int32)) (hf : fX1_cleanPlate v_t_stops p1 = some u)   : zM E l yX1_cleanPlate [.code yX1_cleanPlate cX1_cleanPlate 4 (some .int)] { frames := 0, cells := 0, slots := 0, locals := 0 } [.ref a_t, .int p1] [(a_t, .inr (1, [.ref a_t_kinds, .ref a_t_depths, .ref a_t_lives, .ref a_t_stops])), (a_t_stops, .inl (E.2.2.1, 108, .inl v_t_stops))] (some u.1) [(a_t, .inr (1, [.ref a_t_kinds, .ref a_t_depths, .ref a_t_lives, .ref a_t_stops])), (a_t_stops, .inl (E.2.2.1, 108, .inl u.2))] := by
  refine zM_int (ty := .int) (cc := cX1_cleanPlate) (nL := 4) (by decide) (Nat.le_of_ble_eq_true rfl) ?_
  intro p e R s m args below meth c A Q ls hRf hRl hx hb hml hown hK hA hP hD hS hl ret
  have hT := hK.2
  have hown : s.vm.findClass RX1 = some m.cls := hown
  have hl : lv_has ls 4 [(0, .ref a_t), (1, .int p1)] := hl
  have hw1 : ∀ w ∈ u_ws RX1 TX1 4, w.before args s = true := fun w h => hT w (zl_X1 w h) args
  have h := hf
  unfold fX1_cleanPlate at h
  refine lv_iconst (pc := 0) (v := (0 : Int32)) hx hb dX1_cleanPlate_0 (by decide) ?_
  refine lv_istore_n (pc := 1) (lv' := [(2, .int (0 : Int32)), (0, .ref a_t), (1, .int p1)]) hx hb dX1_cleanPlate_1 rfl hl (by decide) rfl (fun ls hl => ?_)
  refine lv_iload_n (pc := 2) hx hb dX1_cleanPlate_2 rfl (lv_at hl 2 rfl) ?_
  refine lv_bipush (pc := 3) (v := (36 : Int32)) hx hb dX1_cleanPlate_3 (by decide) ?_
  refine lv_imul (pc := 5) hx hb dX1_cleanPlate_5 ?_
  refine lv_istore_n (pc := 6) (lv' := [(3, .int (p1 * (36 : Int32))), (2, .int (0 : Int32)), (0, .ref a_t), (1, .int p1)]) hx hb dX1_cleanPlate_6 rfl hl (by decide) rfl (fun ls hl => ?_)
  have J7 : ∀ (n7 : Nat) (x7_2 : Int32) (x7_3 : Int32) (y7_t_stops : Nat → Int32) (H : Heap) (locs : List Loc) (ls : Array Slot), fX1_cleanPlate_7 p1 n7 x7_2 x7_3 y7_t_stops = some u → lv_has ls 4 [(0, .ref a_t), (1, .int p1), (2, .int x7_2), (3, .int x7_3)] → va_P E.1 vwCl [(a_t, .inr (1, [.ref a_t_kinds, .ref a_t_depths, .ref a_t_lives, .ref a_t_stops])), (a_t_stops, .inl (E.2.2.1, 108, .inl y7_t_stops))] H → va_D A [(a_t, .inr (1, [.ref a_t_kinds, .ref a_t_depths, .ref a_t_lives, .ref a_t_stops])), (a_t_stops, .inl (E.2.2.1, 108, .inl y7_t_stops))] → va_S A s.heap H locs → W p l e R s m args below meth c H locs 0 0 Q (F0 m 7 ls []) := by
    intro n7
    induction n7 with
    | zero =>
      intro x7_2 x7_3 y7_t_stops H locs ls h hl hP hD hS
      rw [fX1_cleanPlate_7] at h
      cases h
    | succ n7 ih7 =>
      intro x7_2 x7_3 y7_t_stops H locs ls h hl hP hD hS
      rw [fX1_cleanPlate_7] at h
      refine lv_iload_n (pc := 7) hx hb dX1_cleanPlate_7 rfl (lv_at hl 3 rfl) ?_
      refine lv_iload_n (pc := 8) hx hb dX1_cleanPlate_8 rfl (lv_at hl 1 rfl) ?_
      refine lv_iconst (pc := 9) (v := (1 : Int32)) hx hb dX1_cleanPlate_9 (by decide) ?_
      refine lv_iadd (pc := 10) hx hb dX1_cleanPlate_10 ?_
      refine lv_bipush (pc := 11) (v := (36 : Int32)) hx hb dX1_cleanPlate_11 (by decide) ?_
      refine lv_imul (pc := 13) hx hb dX1_cleanPlate_13 ?_
      refine lv_icmp_ge (pc := 14) (tgt := 42) hx hb dX1_cleanPlate_14 (by decide) (fun c1 => ?_) (fun c1 => ?_)
      · have h := r_pos h c1
        refine lv_iload_n (pc := 42) hx hb dX1_cleanPlate_42 rfl (lv_at hl 2 rfl) ?_
        obtain rfl := Option.some.inj h
        exact ret _ _ 43 _ rfl dX1_cleanPlate_43 hP hD hS
      · have h := r_neg h c1
        refine lv_aload_n (pc := 17) hx hb dX1_cleanPlate_17 rfl (lv_at hl 0 rfl) ?_
        refine va_get (pc := 18) (ci := 1) (C := RX1) (T := TX1) (N := 4) hx hb hw1 (fun _ h9 => h9) hown hK.1 hP 0 rfl rfl 3 (by decide) (hT _ zw26 _) (fun _ h9 => h9) rfl dX1_cleanPlate_18 ?_
        refine lv_iload_n (pc := 21) hx hb dX1_cleanPlate_21 rfl (lv_at hl 3 rfl) ?_
        obtain ⟨hb2, h⟩ := r_in h
        refine va_zald (pc := 22) hx hb hK.1 hP 1 1 rfl rfl hb2 dX1_cleanPlate_22 ?_
        have J36 : ∀ (x36_2 : Int32) (y36_t_stops : Nat → Int32) (H : Heap) (locs : List Loc) (ls : Array Slot), fX1_cleanPlate_36 x7_3 (fX1_cleanPlate_7 p1 n7) x36_2 y36_t_stops = some u → lv_has ls 4 [(0, .ref a_t), (1, .int p1), (2, .int x36_2), (3, .int x7_3)] → va_P E.1 vwCl [(a_t, .inr (1, [.ref a_t_kinds, .ref a_t_depths, .ref a_t_lives, .ref a_t_stops])), (a_t_stops, .inl (E.2.2.1, 108, .inl y36_t_stops))] H → va_D A [(a_t, .inr (1, [.ref a_t_kinds, .ref a_t_depths, .ref a_t_lives, .ref a_t_stops])), (a_t_stops, .inl (E.2.2.1, 108, .inl y36_t_stops))] → va_S A s.heap H locs → W p l e R s m args below meth c H locs 0 0 Q (F0 m 36 ls []) := by
          intro x36_2 y36_t_stops H locs ls h hl hP hD hS
          unfold fX1_cleanPlate_36 at h
          refine lv_iinc (pc := 36) (v := (x7_3 + (1 : Int32))) (lv' := [(3, .int (x7_3 + (1 : Int32))), (0, .ref a_t), (1, .int p1), (2, .int x36_2)]) hx hb dX1_cleanPlate_36 hl (k := 3) rfl rfl (by decide) rfl (fun ls hl => ?_)
          refine lv_goto (pc := 39) (tgt := 7) hx hb dX1_cleanPlate_39 (by decide) ?_
          exact ih7 x36_2 (x7_3 + (1 : Int32)) y36_t_stops _ _ _ h (lv_sub hl [1, 2, 3, 0] rfl) hP hD hS
        refine lv_if_eq (pc := 23) (tgt := 36) hx hb dX1_cleanPlate_23 (by decide) (fun c3 => ?_) (fun c3 => ?_)
        · have h := r_pos h c3
          exact J36 x7_2 y7_t_stops _ _ _ h hl hP hD hS
        · have h := r_neg h c3
          refine lv_iinc (pc := 26) (v := (x7_2 + (1 : Int32))) (lv' := [(2, .int (x7_2 + (1 : Int32))), (0, .ref a_t), (1, .int p1), (3, .int x7_3)]) hx hb dX1_cleanPlate_26 hl (k := 2) rfl rfl (by decide) rfl (fun ls hl => ?_)
          refine lv_aload_n (pc := 29) hx hb dX1_cleanPlate_29 rfl (lv_at hl 1 rfl) ?_
          refine va_get (pc := 30) (ci := 1) (C := RX1) (T := TX1) (N := 4) hx hb hw1 (fun _ h9 => h9) hown hK.1 hP 0 rfl rfl 3 (by decide) (hT _ zw26 _) (fun _ h9 => h9) rfl dX1_cleanPlate_30 ?_
          refine lv_iload_n (pc := 33) hx hb dX1_cleanPlate_33 rfl (lv_at hl 3 rfl) ?_
          refine lv_iconst (pc := 34) (v := (0 : Int32)) hx hb dX1_cleanPlate_34 (by decide) ?_
          refine va_zast (pc := 35) hx hb hK.1 hP hD hS 1 1 rfl rfl hb2 dX1_cleanPlate_35 (fun H locs hP hD hS => ?_)
          have hP : va_P E.1 vwCl [(a_t, .inr (1, [.ref a_t_kinds, .ref a_t_depths, .ref a_t_lives, .ref a_t_stops])), (a_t_stops, .inl (E.2.2.1, 108, .inl (upd y7_t_stops x7_3.toNatClampNeg ((0 : Int32) &&& (1 : Int32)))))] H := hP
          have hD : va_D A [(a_t, .inr (1, [.ref a_t_kinds, .ref a_t_depths, .ref a_t_lives, .ref a_t_stops])), (a_t_stops, .inl (E.2.2.1, 108, .inl (upd y7_t_stops x7_3.toNatClampNeg ((0 : Int32) &&& (1 : Int32)))))] := hD
          exact J36 (x7_2 + (1 : Int32)) (upd y7_t_stops x7_3.toNatClampNeg ((0 : Int32) &&& (1 : Int32))) _ _ _ h (lv_sub hl [1, 2, 0, 3] rfl) hP hD hS
  exact J7 _ (0 : Int32) (p1 * (36 : Int32)) v_t_stops _ _ _ h (lv_sub hl [2, 3, 1, 0] rfl) hP hD hS
def fX1_bitingMinutes (v_t_kinds : Nat → Int32) (v_t_lives : Nat → Int32) (p1 : Int32) (p2 : Int32) : Option (Int32) := (if inb p1 108 = true then (if (v_t_kinds p1.toNatClampNeg) = (2 : Int32) then some (if (v_t_lives p1.toNatClampNeg) < p2 then (v_t_lives p1.toNatClampNeg) else p2) else some p2) else none)
set_option maxHeartbeats 4000000 in
set_option maxRecDepth 100000 in
theorem mt_X1_bitingMinutes (E : zE) (l : Launch) (a_t : Nat) (a_t_kinds : Nat) (a_t_depths : Nat) (a_t_lives : Nat) (a_t_stops : Nat) (v_t_kinds : Nat → Int32) (v_t_lives : Nat → Int32) (p1 : Int32) (p2 : Int32) (u : Int32) (hf : fX1_bitingMinutes v_t_kinds v_t_lives p1 p2 = some u)   : zM E l yX1_bitingMinutes [.code yX1_bitingMinutes cX1_bitingMinutes 3 (some .int)] { frames := 1, cells := 0, slots := 0, locals := 13 } [.ref a_t, .int p1, .int p2] [(a_t, .inr (1, [.ref a_t_kinds, .ref a_t_depths, .ref a_t_lives, .ref a_t_stops])), (a_t_kinds, .inl (E.2.1, 108, .inl v_t_kinds)), (a_t_lives, .inl (E.2.1, 108, .inl v_t_lives))] (some u) [(a_t, .inr (1, [.ref a_t_kinds, .ref a_t_depths, .ref a_t_lives, .ref a_t_stops])), (a_t_kinds, .inl (E.2.1, 108, .inl v_t_kinds)), (a_t_lives, .inl (E.2.1, 108, .inl v_t_lives))] := by
  refine zM_int (ty := .int) (cc := cX1_bitingMinutes) (nL := 3) (by decide) (Nat.le_of_ble_eq_true rfl) ?_
  intro p e R s m args below meth c A Q ls hRf hRl hx hb hml hown hK hA hP hD hS hl ret
  have hT := hK.2
  have hown : s.vm.findClass RX1 = some m.cls := hown
  have hl : lv_has ls 3 [(0, .ref a_t), (1, .int p1), (2, .int p2)] := hl
  have hw1 : ∀ w ∈ u_ws RX1 TX1 4, w.before args s = true := fun w h => hT w (zl_X1 w h) args
  have h := hf
  unfold fX1_bitingMinutes at h
  refine lv_aload_n (pc := 0) hx hb dX1_bitingMinutes_0 rfl (lv_at hl 0 rfl) ?_
  refine va_get (pc := 1) (ci := 1) (C := RX1) (T := TX1) (N := 4) hx hb hw1 (fun _ h9 => h9) hown hK.1 hP 0 rfl rfl 0 (by decide) (hT _ zw22 _) (fun _ h9 => h9) rfl dX1_bitingMinutes_1 ?_
  refine lv_iload_n (pc := 4) hx hb dX1_bitingMinutes_4 rfl (lv_at hl 1 rfl) ?_
  obtain ⟨hb1, h⟩ := r_in h
  refine va_iald (pc := 5) hx hb hK.1 hP 1 0 rfl rfl hb1 dX1_bitingMinutes_5 ?_
  refine lv_iconst (pc := 6) (v := (2 : Int32)) hx hb dX1_bitingMinutes_6 (by decide) ?_
  refine lv_icmp_ne (pc := 7) (tgt := 23) hx hb dX1_bitingMinutes_7 (by decide) (fun c2 => ?_) (fun c2 => ?_)
  · have h := r_neg h c2
    refine lv_iload_n (pc := 23) hx hb dX1_bitingMinutes_23 rfl (lv_at hl 2 rfl) ?_
    obtain rfl := Option.some.inj h
    exact ret _ _ 24 _ rfl dX1_bitingMinutes_24 hP hD hS
  · have h := r_pos h c2
    refine lv_iload_n (pc := 10) hx hb dX1_bitingMinutes_10 rfl (lv_at hl 2 rfl) ?_
    refine lv_aload_n (pc := 11) hx hb dX1_bitingMinutes_11 rfl (lv_at hl 0 rfl) ?_
    refine va_get (pc := 12) (ci := 1) (C := RX1) (T := TX1) (N := 4) hx hb hw1 (fun _ h9 => h9) hown hK.1 hP 0 rfl rfl 2 (by decide) (hT _ zw23 _) (fun _ h9 => h9) rfl dX1_bitingMinutes_12 ?_
    refine lv_iload_n (pc := 15) hx hb dX1_bitingMinutes_15 rfl (lv_at hl 1 rfl) ?_
    refine va_iald (pc := 16) hx hb hK.1 hP 2 0 rfl rfl hb1 dX1_bitingMinutes_16 ?_
    refine va_mmin (pc := 17) hx hb (by rw [hml]; exact hl.1.symm) hown (hT _ zw27 _) (hT _ zw5 _) (hT _ zw6 _) (hT _ zw7 _) (Nat.le_trans (Nat.le_of_ble_eq_true rfl) hRf) (Nat.le_trans (Nat.le_of_ble_eq_true rfl) hRl) (Nat.zero_le _) (Nat.zero_le _) dX1_bitingMinutes_17 ?_
    refine lv_goto (pc := 20) (tgt := 24) hx hb dX1_bitingMinutes_20 (by decide) ?_
    obtain rfl := Option.some.inj h
    exact ret _ _ 24 _ rfl dX1_bitingMinutes_24 hP hD hS
def fX1_batheCell (v_t_kinds : Nat → Int32) (v_t_depths : Nat → Int32) (v_t_lives : Nat → Int32) (p1 : Int32) (p2 : Int32) (p3 : Int32) : Option ((Nat → Int32) × (Nat → Int32)) := ((fX1_bitingMinutes v_t_kinds v_t_lives p1 p3).bind fun u1 => (if inb p1 108 = true then ((fX1_timesBite v_t_kinds v_t_lives p1).bind fun u4 => (if (v_t_kinds p1.toNatClampNeg) = (2 : Int32) then some ((upd v_t_depths p1.toNatClampNeg (if ((v_t_depths p1.toNatClampNeg) + ((u4 * p2) * u1)) < (9999 : Int32) then ((v_t_depths p1.toNatClampNeg) + ((u4 * p2) * u1)) else (9999 : Int32))), (upd v_t_lives p1.toNatClampNeg ((v_t_lives p1.toNatClampNeg) - u1))) else some ((upd v_t_depths p1.toNatClampNeg (if ((v_t_depths p1.toNatClampNeg) + ((u4 * p2) * u1)) < (9999 : Int32) then ((v_t_depths p1.toNatClampNeg) + ((u4 * p2) * u1)) else (9999 : Int32))), v_t_lives))) else none))
set_option maxHeartbeats 4000000 in
set_option maxRecDepth 100000 in
theorem mt_X1_batheCell (E : zE) (l : Launch) (a_t : Nat) (a_t_kinds : Nat) (a_t_depths : Nat) (a_t_lives : Nat) (a_t_stops : Nat) (v_t_kinds : Nat → Int32) (v_t_depths : Nat → Int32) (v_t_lives : Nat → Int32) (p1 : Int32) (p2 : Int32) (p3 : Int32) (u : (Nat → Int32) × (Nat → Int32)) (hf : fX1_batheCell v_t_kinds v_t_depths v_t_lives p1 p2 p3 = some u)   : zM E l yX1_batheCell [.code yX1_batheCell cX1_batheCell 5 none] { frames := 2, cells := 0, slots := 0, locals := 35 } [.ref a_t, .int p1, .int p2, .int p3] [(a_t, .inr (1, [.ref a_t_kinds, .ref a_t_depths, .ref a_t_lives, .ref a_t_stops])), (a_t_kinds, .inl (E.2.1, 108, .inl v_t_kinds)), (a_t_depths, .inl (E.2.1, 108, .inl v_t_depths)), (a_t_lives, .inl (E.2.1, 108, .inl v_t_lives))] (none) [(a_t, .inr (1, [.ref a_t_kinds, .ref a_t_depths, .ref a_t_lives, .ref a_t_stops])), (a_t_kinds, .inl (E.2.1, 108, .inl v_t_kinds)), (a_t_depths, .inl (E.2.1, 108, .inl u.1)), (a_t_lives, .inl (E.2.1, 108, .inl u.2))] := by
  refine zM_void (cc := cX1_batheCell) (nL := 5) (by decide) (Nat.le_of_ble_eq_true rfl) ?_
  intro p e R s m args below meth c A Q ls hRf hRl hx hb hml hown hK hA hP hD hS hl ret
  have hT := hK.2
  have hown : s.vm.findClass RX1 = some m.cls := hown
  have hl : lv_has ls 5 [(0, .ref a_t), (1, .int p1), (2, .int p2), (3, .int p3)] := hl
  have hw1 : ∀ w ∈ u_ws RX1 TX1 4, w.before args s = true := fun w h => hT w (zl_X1 w h) args
  have h := hf
  unfold fX1_batheCell at h
  refine lv_aload_n (pc := 0) hx hb dX1_batheCell_0 rfl (lv_at hl 0 rfl) ?_
  refine lv_iload_n (pc := 1) hx hb dX1_batheCell_1 rfl (lv_at hl 1 rfl) ?_
  refine lv_iload_n (pc := 2) hx hb dX1_batheCell_2 rfl (lv_at hl 3 rfl) ?_
  obtain ⟨u1, hg2, h⟩ := r_bind h
  refine z_callV (pc := 3) (n := 2) (o := some u1) (As := [.int p1, .int p3]) (rest := []) (ci := 1) (q0 := 0) (wc := [(a_t, .inr (1, [.ref a_t_kinds, .ref a_t_depths, .ref a_t_lives, .ref a_t_stops])), (a_t_kinds, .inl (E.2.1, 108, .inl v_t_kinds)), (a_t_lives, .inl (E.2.1, 108, .inl v_t_lives))]) (wc' := [(a_t, .inr (1, [.ref a_t_kinds, .ref a_t_depths, .ref a_t_lives, .ref a_t_stops])), (a_t_kinds, .inl (E.2.1, 108, .inl v_t_kinds)), (a_t_lives, .inl (E.2.1, 108, .inl v_t_lives))]) (wr := [(a_t_depths, .inl (E.2.1, 108, .inl v_t_depths))]) hx hb hml hown hK hA hP hD hS hl.1 ⟨Nat.zero_le _, Nat.zero_le _⟩ (mt_X1_bitingMinutes E l a_t a_t_kinds a_t_depths a_t_lives a_t_stops v_t_kinds v_t_lives p1 p3 u1 hg2) zw28 zw29 zw30 zw31 zw32 (by decide +kernel) rfl ⟨rfl, rfl, Nat.le_trans (Nat.le_of_ble_eq_true rfl) hRf, Nat.le_trans (Nat.le_of_ble_eq_true rfl) hRl⟩ [0, 1, 3] [2] (by decide) rfl rfl (by decide) (by decide) rfl rfl rfl (Nat.le_of_ble_eq_true rfl) dX1_batheCell_3 (fun H locs hP hD hS => ?_)
  have hP : va_P E.1 vwCl [(a_t_depths, .inl (E.2.1, 108, .inl v_t_depths)), (a_t, .inr (1, [.ref a_t_kinds, .ref a_t_depths, .ref a_t_lives, .ref a_t_stops])), (a_t_kinds, .inl (E.2.1, 108, .inl v_t_kinds)), (a_t_lives, .inl (E.2.1, 108, .inl v_t_lives))] H := hP
  have hD : va_D A [(a_t_depths, .inl (E.2.1, 108, .inl v_t_depths)), (a_t, .inr (1, [.ref a_t_kinds, .ref a_t_depths, .ref a_t_lives, .ref a_t_stops])), (a_t_kinds, .inl (E.2.1, 108, .inl v_t_kinds)), (a_t_lives, .inl (E.2.1, 108, .inl v_t_lives))] := hD
  refine lv_istore (pc := 6) (lv' := [(4, .int u1), (0, .ref a_t), (1, .int p1), (2, .int p2), (3, .int p3)]) hx hb dX1_batheCell_6 hl (by decide) rfl (fun ls hl => ?_)
  refine lv_aload_n (pc := 8) hx hb dX1_batheCell_8 rfl (lv_at hl 1 rfl) ?_
  refine va_get (pc := 9) (ci := 1) (C := RX1) (T := TX1) (N := 4) hx hb hw1 (fun _ h9 => h9) hown hK.1 hP 1 rfl rfl 1 (by decide) (hT _ zw24 _) (fun _ h9 => h9) rfl dX1_batheCell_9 ?_
  refine lv_iload_n (pc := 12) hx hb dX1_batheCell_12 rfl (lv_at hl 2 rfl) ?_
  refine lv_sipush (pc := 13) (v := (9999 : Int32)) hx hb dX1_batheCell_13 (by decide) ?_
  refine lv_aload_n (pc := 16) hx hb dX1_batheCell_16 rfl (lv_at hl 1 rfl) ?_
  refine va_get (pc := 17) (ci := 1) (C := RX1) (T := TX1) (N := 4) hx hb hw1 (fun _ h9 => h9) hown hK.1 hP 1 rfl rfl 1 (by decide) (hT _ zw24 _) (fun _ h9 => h9) rfl dX1_batheCell_17 ?_
  refine lv_iload_n (pc := 20) hx hb dX1_batheCell_20 rfl (lv_at hl 2 rfl) ?_
  obtain ⟨hb3, h⟩ := r_in h
  refine va_iald (pc := 21) hx hb hK.1 hP 0 0 rfl rfl hb3 dX1_batheCell_21 ?_
  refine lv_aload_n (pc := 22) hx hb dX1_batheCell_22 rfl (lv_at hl 1 rfl) ?_
  refine lv_iload_n (pc := 23) hx hb dX1_batheCell_23 rfl (lv_at hl 2 rfl) ?_
  obtain ⟨u4, hg5, h⟩ := r_bind h
  refine z_callV (pc := 24) (n := 1) (o := some u4) (As := [.int p1]) (rest := [.int (v_t_depths p1.toNatClampNeg), .int (9999 : Int32), .int p1, .ref a_t_depths]) (ci := 1) (q0 := 0) (wc := [(a_t, .inr (1, [.ref a_t_kinds, .ref a_t_depths, .ref a_t_lives, .ref a_t_stops])), (a_t_kinds, .inl (E.2.1, 108, .inl v_t_kinds)), (a_t_lives, .inl (E.2.1, 108, .inl v_t_lives))]) (wc' := [(a_t, .inr (1, [.ref a_t_kinds, .ref a_t_depths, .ref a_t_lives, .ref a_t_stops])), (a_t_kinds, .inl (E.2.1, 108, .inl v_t_kinds)), (a_t_lives, .inl (E.2.1, 108, .inl v_t_lives))]) (wr := [(a_t_depths, .inl (E.2.1, 108, .inl v_t_depths))]) hx hb hml hown hK hA hP hD hS hl.1 ⟨Nat.zero_le _, Nat.zero_le _⟩ (mt_X1_timesBite E l a_t a_t_kinds a_t_depths a_t_lives a_t_stops v_t_kinds v_t_lives p1 u4 hg5) zw33 zw34 zw35 zw31 zw36 (by decide +kernel) rfl ⟨rfl, rfl, Nat.le_trans (Nat.le_of_ble_eq_true rfl) hRf, Nat.le_trans (Nat.le_of_ble_eq_true rfl) hRl⟩ [1, 2, 3] [0] (by decide) rfl rfl (by decide) (by decide) rfl rfl rfl (Nat.le_of_ble_eq_true rfl) dX1_batheCell_24 (fun H locs hP hD hS => ?_)
  have hP : va_P E.1 vwCl [(a_t_depths, .inl (E.2.1, 108, .inl v_t_depths)), (a_t, .inr (1, [.ref a_t_kinds, .ref a_t_depths, .ref a_t_lives, .ref a_t_stops])), (a_t_kinds, .inl (E.2.1, 108, .inl v_t_kinds)), (a_t_lives, .inl (E.2.1, 108, .inl v_t_lives))] H := hP
  have hD : va_D A [(a_t_depths, .inl (E.2.1, 108, .inl v_t_depths)), (a_t, .inr (1, [.ref a_t_kinds, .ref a_t_depths, .ref a_t_lives, .ref a_t_stops])), (a_t_kinds, .inl (E.2.1, 108, .inl v_t_kinds)), (a_t_lives, .inl (E.2.1, 108, .inl v_t_lives))] := hD
  refine lv_iload_n (pc := 27) hx hb dX1_batheCell_27 rfl (lv_at hl 3 rfl) ?_
  refine lv_imul (pc := 28) hx hb dX1_batheCell_28 ?_
  refine lv_iload (pc := 29) hx hb dX1_batheCell_29 (lv_at hl 0 rfl) ?_
  refine lv_imul (pc := 31) hx hb dX1_batheCell_31 ?_
  refine lv_iadd (pc := 32) hx hb dX1_batheCell_32 ?_
  refine va_mmin (pc := 33) hx hb (by rw [hml]; exact hl.1.symm) hown (hT _ zw27 _) (hT _ zw5 _) (hT _ zw6 _) (hT _ zw7 _) (Nat.le_trans (Nat.le_of_ble_eq_true rfl) hRf) (Nat.le_trans (Nat.le_of_ble_eq_true rfl) hRl) (Nat.zero_le _) (Nat.zero_le _) dX1_batheCell_33 ?_
  refine va_iast (pc := 36) hx hb hK.1 hP hD hS 0 0 rfl rfl hb3 dX1_batheCell_36 (fun H locs hP hD hS => ?_)
  have hP : va_P E.1 vwCl [(a_t_depths, .inl (E.2.1, 108, .inl (upd v_t_depths p1.toNatClampNeg (if ((v_t_depths p1.toNatClampNeg) + ((u4 * p2) * u1)) < (9999 : Int32) then ((v_t_depths p1.toNatClampNeg) + ((u4 * p2) * u1)) else (9999 : Int32))))), (a_t, .inr (1, [.ref a_t_kinds, .ref a_t_depths, .ref a_t_lives, .ref a_t_stops])), (a_t_kinds, .inl (E.2.1, 108, .inl v_t_kinds)), (a_t_lives, .inl (E.2.1, 108, .inl v_t_lives))] H := hP
  have hD : va_D A [(a_t_depths, .inl (E.2.1, 108, .inl (upd v_t_depths p1.toNatClampNeg (if ((v_t_depths p1.toNatClampNeg) + ((u4 * p2) * u1)) < (9999 : Int32) then ((v_t_depths p1.toNatClampNeg) + ((u4 * p2) * u1)) else (9999 : Int32))))), (a_t, .inr (1, [.ref a_t_kinds, .ref a_t_depths, .ref a_t_lives, .ref a_t_stops])), (a_t_kinds, .inl (E.2.1, 108, .inl v_t_kinds)), (a_t_lives, .inl (E.2.1, 108, .inl v_t_lives))] := hD
  refine lv_aload_n (pc := 37) hx hb dX1_batheCell_37 rfl (lv_at hl 1 rfl) ?_
  refine va_get (pc := 38) (ci := 1) (C := RX1) (T := TX1) (N := 4) hx hb hw1 (fun _ h9 => h9) hown hK.1 hP 1 rfl rfl 0 (by decide) (hT _ zw22 _) (fun _ h9 => h9) rfl dX1_batheCell_38 ?_
  refine lv_iload_n (pc := 41) hx hb dX1_batheCell_41 rfl (lv_at hl 2 rfl) ?_
  refine va_iald (pc := 42) hx hb hK.1 hP 2 0 rfl rfl hb3 dX1_batheCell_42 ?_
  refine lv_iconst (pc := 43) (v := (2 : Int32)) hx hb dX1_batheCell_43 (by decide) ?_
  refine lv_icmp_ne (pc := 44) (tgt := 58) hx hb dX1_batheCell_44 (by decide) (fun c6 => ?_) (fun c6 => ?_)
  · have h := r_neg h c6
    obtain rfl := Option.some.inj h
    exact ret _ _ 58 _ dX1_batheCell_58 (hP.sub [1, 2, 0, 3] rfl) (hD.sub [1, 2, 0, 3] (by decide) rfl) hS
  · have h := r_pos h c6
    refine lv_aload_n (pc := 47) hx hb dX1_batheCell_47 rfl (lv_at hl 1 rfl) ?_
    refine va_get (pc := 48) (ci := 1) (C := RX1) (T := TX1) (N := 4) hx hb hw1 (fun _ h9 => h9) hown hK.1 hP 1 rfl rfl 2 (by decide) (hT _ zw23 _) (fun _ h9 => h9) rfl dX1_batheCell_48 ?_
    refine lv_iload_n (pc := 51) hx hb dX1_batheCell_51 rfl (lv_at hl 2 rfl) ?_
    refine lv_dup2_11 (pc := 52) hx hb dX1_batheCell_52 rfl rfl ?_
    refine va_iald (pc := 53) hx hb hK.1 hP 3 0 rfl rfl hb3 dX1_batheCell_53 ?_
    refine lv_iload (pc := 54) hx hb dX1_batheCell_54 (lv_at hl 0 rfl) ?_
    refine lv_isub (pc := 56) hx hb dX1_batheCell_56 ?_
    refine va_iast (pc := 57) hx hb hK.1 hP hD hS 3 0 rfl rfl hb3 dX1_batheCell_57 (fun H locs hP hD hS => ?_)
    have hP : va_P E.1 vwCl [(a_t_depths, .inl (E.2.1, 108, .inl (upd v_t_depths p1.toNatClampNeg (if ((v_t_depths p1.toNatClampNeg) + ((u4 * p2) * u1)) < (9999 : Int32) then ((v_t_depths p1.toNatClampNeg) + ((u4 * p2) * u1)) else (9999 : Int32))))), (a_t, .inr (1, [.ref a_t_kinds, .ref a_t_depths, .ref a_t_lives, .ref a_t_stops])), (a_t_kinds, .inl (E.2.1, 108, .inl v_t_kinds)), (a_t_lives, .inl (E.2.1, 108, .inl (upd v_t_lives p1.toNatClampNeg ((v_t_lives p1.toNatClampNeg) - u1))))] H := hP
    have hD : va_D A [(a_t_depths, .inl (E.2.1, 108, .inl (upd v_t_depths p1.toNatClampNeg (if ((v_t_depths p1.toNatClampNeg) + ((u4 * p2) * u1)) < (9999 : Int32) then ((v_t_depths p1.toNatClampNeg) + ((u4 * p2) * u1)) else (9999 : Int32))))), (a_t, .inr (1, [.ref a_t_kinds, .ref a_t_depths, .ref a_t_lives, .ref a_t_stops])), (a_t_kinds, .inl (E.2.1, 108, .inl v_t_kinds)), (a_t_lives, .inl (E.2.1, 108, .inl (upd v_t_lives p1.toNatClampNeg ((v_t_lives p1.toNatClampNeg) - u1))))] := hD
    obtain rfl := Option.some.inj h
    exact ret _ _ 58 _ dX1_batheCell_58 (hP.sub [1, 2, 0, 3] rfl) (hD.sub [1, 2, 0, 3] (by decide) rfl) hS
def fX1_bathePlate_35 (x6_4 : Int32) (k6 : Int32 → (Nat → Int32) → (Nat → Int32) → Option ((Nat → Int32) × (Nat → Int32))) (y35_t_depths : Nat → Int32) (y35_t_lives : Nat → Int32) : Option ((Nat → Int32) × (Nat → Int32)) := k6 (x6_4 + (1 : Int32)) y35_t_depths y35_t_lives
def fX1_bathePlate_6 (v_t_kinds : Nat → Int32) (v_t_stops : Nat → Int32) (p1 : Int32) (p2 : Int32) (p3 : Int32) : Nat → Int32 → (Nat → Int32) → (Nat → Int32) → Option ((Nat → Int32) × (Nat → Int32))
  | 0, _, _, _ => none
  | n6 + 1, x6_4, y6_t_depths, y6_t_lives => (if ((p1 + (1 : Int32)) * (36 : Int32)) ≤ x6_4 then some (y6_t_depths, y6_t_lives) else (if inb x6_4 108 = true then (if (v_t_stops x6_4.toNatClampNeg) = 0 then ((fX1_batheCell v_t_kinds y6_t_depths y6_t_lives x6_4 p2 p3).bind fun u4 => fX1_bathePlate_35 x6_4 (fX1_bathePlate_6 v_t_kinds v_t_stops p1 p2 p3 n6) u4.1 u4.2) else fX1_bathePlate_35 x6_4 (fX1_bathePlate_6 v_t_kinds v_t_stops p1 p2 p3 n6) y6_t_depths y6_t_lives) else none))
def fX1_bathePlate (v_t_kinds : Nat → Int32) (v_t_depths : Nat → Int32) (v_t_lives : Nat → Int32) (v_t_stops : Nat → Int32) (p1 : Int32) (p2 : Int32) (p3 : Int32) : Option ((Nat → Int32) × (Nat → Int32)) := fX1_bathePlate_6 v_t_kinds v_t_stops p1 p2 p3 100000 (p1 * (36 : Int32)) v_t_depths v_t_lives
set_option maxHeartbeats 4000000 in
set_option maxRecDepth 100000 in
theorem mt_X1_bathePlate (E : zE) (l : Launch) (a_t : Nat) (a_t_kinds : Nat) (a_t_depths : Nat) (a_t_lives : Nat) (a_t_stops : Nat) (v_t_kinds : Nat → Int32) (v_t_depths : Nat → Int32) (v_t_lives : Nat → Int32) (v_t_stops : Nat → Int32) (p1 : Int32) (p2 : Int32) (p3 : Int32) (u : (Nat → Int32) × (Nat → Int32)) (hf : fX1_bathePlate v_t_kinds v_t_depths v_t_lives v_t_stops p1 p2 p3 = some u)   : zM E l yX1_bathePlate [.code yX1_bathePlate cX1_bathePlate 5 none] { frames := 3, cells := 0, slots := 0, locals := 59 } [.ref a_t, .int p1, .int p2, .int p3] [(a_t, .inr (1, [.ref a_t_kinds, .ref a_t_depths, .ref a_t_lives, .ref a_t_stops])), (a_t_kinds, .inl (E.2.1, 108, .inl v_t_kinds)), (a_t_depths, .inl (E.2.1, 108, .inl v_t_depths)), (a_t_lives, .inl (E.2.1, 108, .inl v_t_lives)), (a_t_stops, .inl (E.2.2.1, 108, .inl v_t_stops))] (none) [(a_t, .inr (1, [.ref a_t_kinds, .ref a_t_depths, .ref a_t_lives, .ref a_t_stops])), (a_t_kinds, .inl (E.2.1, 108, .inl v_t_kinds)), (a_t_depths, .inl (E.2.1, 108, .inl u.1)), (a_t_lives, .inl (E.2.1, 108, .inl u.2)), (a_t_stops, .inl (E.2.2.1, 108, .inl v_t_stops))] := by
  refine zM_void (cc := cX1_bathePlate) (nL := 5) (by decide) (Nat.le_of_ble_eq_true rfl) ?_
  intro p e R s m args below meth c A Q ls hRf hRl hx hb hml hown hK hA hP hD hS hl ret
  have hT := hK.2
  have hown : s.vm.findClass RX1 = some m.cls := hown
  have hl : lv_has ls 5 [(0, .ref a_t), (1, .int p1), (2, .int p2), (3, .int p3)] := hl
  have hw1 : ∀ w ∈ u_ws RX1 TX1 4, w.before args s = true := fun w h => hT w (zl_X1 w h) args
  have h := hf
  unfold fX1_bathePlate at h
  refine lv_iload_n (pc := 0) hx hb dX1_bathePlate_0 rfl (lv_at hl 1 rfl) ?_
  refine lv_bipush (pc := 1) (v := (36 : Int32)) hx hb dX1_bathePlate_1 (by decide) ?_
  refine lv_imul (pc := 3) hx hb dX1_bathePlate_3 ?_
  refine lv_istore (pc := 4) (lv' := [(4, .int (p1 * (36 : Int32))), (0, .ref a_t), (1, .int p1), (2, .int p2), (3, .int p3)]) hx hb dX1_bathePlate_4 hl (by decide) rfl (fun ls hl => ?_)
  have J6 : ∀ (n6 : Nat) (x6_4 : Int32) (y6_t_depths : Nat → Int32) (y6_t_lives : Nat → Int32) (H : Heap) (locs : List Loc) (ls : Array Slot), fX1_bathePlate_6 v_t_kinds v_t_stops p1 p2 p3 n6 x6_4 y6_t_depths y6_t_lives = some u → lv_has ls 5 [(0, .ref a_t), (1, .int p1), (2, .int p2), (3, .int p3), (4, .int x6_4)] → va_P E.1 vwCl [(a_t, .inr (1, [.ref a_t_kinds, .ref a_t_depths, .ref a_t_lives, .ref a_t_stops])), (a_t_kinds, .inl (E.2.1, 108, .inl v_t_kinds)), (a_t_depths, .inl (E.2.1, 108, .inl y6_t_depths)), (a_t_lives, .inl (E.2.1, 108, .inl y6_t_lives)), (a_t_stops, .inl (E.2.2.1, 108, .inl v_t_stops))] H → va_D A [(a_t, .inr (1, [.ref a_t_kinds, .ref a_t_depths, .ref a_t_lives, .ref a_t_stops])), (a_t_kinds, .inl (E.2.1, 108, .inl v_t_kinds)), (a_t_depths, .inl (E.2.1, 108, .inl y6_t_depths)), (a_t_lives, .inl (E.2.1, 108, .inl y6_t_lives)), (a_t_stops, .inl (E.2.2.1, 108, .inl v_t_stops))] → va_S A s.heap H locs → W p l e R s m args below meth c H locs 0 0 Q (F0 m 6 ls []) := by
    intro n6
    induction n6 with
    | zero =>
      intro x6_4 y6_t_depths y6_t_lives H locs ls h hl hP hD hS
      rw [fX1_bathePlate_6] at h
      cases h
    | succ n6 ih6 =>
      intro x6_4 y6_t_depths y6_t_lives H locs ls h hl hP hD hS
      rw [fX1_bathePlate_6] at h
      refine lv_iload (pc := 6) hx hb dX1_bathePlate_6 (lv_at hl 4 rfl) ?_
      refine lv_iload_n (pc := 8) hx hb dX1_bathePlate_8 rfl (lv_at hl 1 rfl) ?_
      refine lv_iconst (pc := 9) (v := (1 : Int32)) hx hb dX1_bathePlate_9 (by decide) ?_
      refine lv_iadd (pc := 10) hx hb dX1_bathePlate_10 ?_
      refine lv_bipush (pc := 11) (v := (36 : Int32)) hx hb dX1_bathePlate_11 (by decide) ?_
      refine lv_imul (pc := 13) hx hb dX1_bathePlate_13 ?_
      refine lv_icmp_ge (pc := 14) (tgt := 41) hx hb dX1_bathePlate_14 (by decide) (fun c1 => ?_) (fun c1 => ?_)
      · have h := r_pos h c1
        obtain rfl := Option.some.inj h
        exact ret _ _ 41 _ dX1_bathePlate_41 hP hD hS
      · have h := r_neg h c1
        refine lv_aload_n (pc := 17) hx hb dX1_bathePlate_17 rfl (lv_at hl 0 rfl) ?_
        refine va_get (pc := 18) (ci := 1) (C := RX1) (T := TX1) (N := 4) hx hb hw1 (fun _ h9 => h9) hown hK.1 hP 0 rfl rfl 3 (by decide) (hT _ zw26 _) (fun _ h9 => h9) rfl dX1_bathePlate_18 ?_
        refine lv_iload (pc := 21) hx hb dX1_bathePlate_21 (lv_at hl 4 rfl) ?_
        obtain ⟨hb2, h⟩ := r_in h
        refine va_zald (pc := 23) hx hb hK.1 hP 4 1 rfl rfl hb2 dX1_bathePlate_23 ?_
        have J35 : ∀ (y35_t_depths : Nat → Int32) (y35_t_lives : Nat → Int32) (H : Heap) (locs : List Loc) (ls : Array Slot), fX1_bathePlate_35 x6_4 (fX1_bathePlate_6 v_t_kinds v_t_stops p1 p2 p3 n6) y35_t_depths y35_t_lives = some u → lv_has ls 5 [(0, .ref a_t), (1, .int p1), (2, .int p2), (3, .int p3), (4, .int x6_4)] → va_P E.1 vwCl [(a_t, .inr (1, [.ref a_t_kinds, .ref a_t_depths, .ref a_t_lives, .ref a_t_stops])), (a_t_kinds, .inl (E.2.1, 108, .inl v_t_kinds)), (a_t_depths, .inl (E.2.1, 108, .inl y35_t_depths)), (a_t_lives, .inl (E.2.1, 108, .inl y35_t_lives)), (a_t_stops, .inl (E.2.2.1, 108, .inl v_t_stops))] H → va_D A [(a_t, .inr (1, [.ref a_t_kinds, .ref a_t_depths, .ref a_t_lives, .ref a_t_stops])), (a_t_kinds, .inl (E.2.1, 108, .inl v_t_kinds)), (a_t_depths, .inl (E.2.1, 108, .inl y35_t_depths)), (a_t_lives, .inl (E.2.1, 108, .inl y35_t_lives)), (a_t_stops, .inl (E.2.2.1, 108, .inl v_t_stops))] → va_S A s.heap H locs → W p l e R s m args below meth c H locs 0 0 Q (F0 m 35 ls []) := by
          intro y35_t_depths y35_t_lives H locs ls h hl hP hD hS
          unfold fX1_bathePlate_35 at h
          refine lv_iinc (pc := 35) (v := (x6_4 + (1 : Int32))) (lv' := [(4, .int (x6_4 + (1 : Int32))), (0, .ref a_t), (1, .int p1), (2, .int p2), (3, .int p3)]) hx hb dX1_bathePlate_35 hl (k := 4) rfl rfl (by decide) rfl (fun ls hl => ?_)
          refine lv_goto (pc := 38) (tgt := 6) hx hb dX1_bathePlate_38 (by decide) ?_
          exact ih6 (x6_4 + (1 : Int32)) y35_t_depths y35_t_lives _ _ _ h (lv_sub hl [1, 2, 3, 4, 0] rfl) hP hD hS
        refine lv_if_ne (pc := 24) (tgt := 35) hx hb dX1_bathePlate_24 (by decide) (fun c3 => ?_) (fun c3 => ?_)
        · have h := r_neg h c3
          exact J35 y6_t_depths y6_t_lives _ _ _ h hl hP hD hS
        · have h := r_pos h c3
          refine lv_aload_n (pc := 27) hx hb dX1_bathePlate_27 rfl (lv_at hl 0 rfl) ?_
          refine lv_iload (pc := 28) hx hb dX1_bathePlate_28 (lv_at hl 4 rfl) ?_
          refine lv_iload_n (pc := 30) hx hb dX1_bathePlate_30 rfl (lv_at hl 2 rfl) ?_
          refine lv_iload_n (pc := 31) hx hb dX1_bathePlate_31 rfl (lv_at hl 3 rfl) ?_
          obtain ⟨u4, hg5, h⟩ := r_bind h
          refine z_callV (pc := 32) (n := 3) (o := none) (As := [.int x6_4, .int p2, .int p3]) (rest := []) (ci := 1) (q0 := 0) (wc := [(a_t, .inr (1, [.ref a_t_kinds, .ref a_t_depths, .ref a_t_lives, .ref a_t_stops])), (a_t_kinds, .inl (E.2.1, 108, .inl v_t_kinds)), (a_t_depths, .inl (E.2.1, 108, .inl y6_t_depths)), (a_t_lives, .inl (E.2.1, 108, .inl y6_t_lives))]) (wc' := [(a_t, .inr (1, [.ref a_t_kinds, .ref a_t_depths, .ref a_t_lives, .ref a_t_stops])), (a_t_kinds, .inl (E.2.1, 108, .inl v_t_kinds)), (a_t_depths, .inl (E.2.1, 108, .inl u4.1)), (a_t_lives, .inl (E.2.1, 108, .inl u4.2))]) (wr := [(a_t_stops, .inl (E.2.2.1, 108, .inl v_t_stops))]) hx hb hml hown hK hA hP hD hS hl.1 ⟨Nat.zero_le _, Nat.zero_le _⟩ (mt_X1_batheCell E l a_t a_t_kinds a_t_depths a_t_lives a_t_stops v_t_kinds y6_t_depths y6_t_lives x6_4 p2 p3 u4 hg5) zw37 zw38 zw39 zw31 zw40 (by decide +kernel) rfl ⟨rfl, rfl, Nat.le_trans (Nat.le_of_ble_eq_true rfl) hRf, Nat.le_trans (Nat.le_of_ble_eq_true rfl) hRl⟩ [0, 1, 2, 3] [4] (by decide) rfl rfl (by decide) (by decide) rfl rfl rfl (Nat.le_of_ble_eq_true rfl) dX1_bathePlate_32 (fun H locs hP hD hS => ?_)
          have hP : va_P E.1 vwCl [(a_t_stops, .inl (E.2.2.1, 108, .inl v_t_stops)), (a_t, .inr (1, [.ref a_t_kinds, .ref a_t_depths, .ref a_t_lives, .ref a_t_stops])), (a_t_kinds, .inl (E.2.1, 108, .inl v_t_kinds)), (a_t_depths, .inl (E.2.1, 108, .inl u4.1)), (a_t_lives, .inl (E.2.1, 108, .inl u4.2))] H := hP
          have hD : va_D A [(a_t_stops, .inl (E.2.2.1, 108, .inl v_t_stops)), (a_t, .inr (1, [.ref a_t_kinds, .ref a_t_depths, .ref a_t_lives, .ref a_t_stops])), (a_t_kinds, .inl (E.2.1, 108, .inl v_t_kinds)), (a_t_depths, .inl (E.2.1, 108, .inl u4.1)), (a_t_lives, .inl (E.2.1, 108, .inl u4.2))] := hD
          exact J35 u4.1 u4.2 _ _ _ h hl (hP.sub [1, 2, 3, 4, 0] rfl) (hD.sub [1, 2, 3, 4, 0] (by decide) rfl) hS
  exact J6 _ (p1 * (36 : Int32)) v_t_depths v_t_lives _ _ _ h (lv_sub hl [1, 2, 3, 4, 0] rfl) hP hD hS
def fX1_depthOfPlate_7 (v_t_depths : Nat → Int32) (p1 : Int32) : Nat → Int32 → Int32 → Option (Int32)
  | 0, _, _ => none
  | n7 + 1, x7_2, x7_3 => (if ((p1 + (1 : Int32)) * (36 : Int32)) ≤ x7_3 then some x7_2 else (if inb x7_3 108 = true then (fX1_depthOfPlate_7 v_t_depths p1 n7) (x7_2 + (v_t_depths x7_3.toNatClampNeg)) (x7_3 + (1 : Int32)) else none))
def fX1_depthOfPlate (v_t_depths : Nat → Int32) (p1 : Int32) : Option (Int32) := fX1_depthOfPlate_7 v_t_depths p1 100000 (0 : Int32) (p1 * (36 : Int32))
set_option maxHeartbeats 4000000 in
set_option maxRecDepth 100000 in
theorem mt_X1_depthOfPlate (E : zE) (l : Launch) (a_t : Nat) (a_t_kinds : Nat) (a_t_depths : Nat) (a_t_lives : Nat) (a_t_stops : Nat) (v_t_depths : Nat → Int32) (p1 : Int32) (u : Int32) (hf : fX1_depthOfPlate v_t_depths p1 = some u)   : zM E l yX1_depthOfPlate [.code yX1_depthOfPlate cX1_depthOfPlate 4 (some .int)] { frames := 0, cells := 0, slots := 0, locals := 0 } [.ref a_t, .int p1] [(a_t, .inr (1, [.ref a_t_kinds, .ref a_t_depths, .ref a_t_lives, .ref a_t_stops])), (a_t_depths, .inl (E.2.1, 108, .inl v_t_depths))] (some u) [(a_t, .inr (1, [.ref a_t_kinds, .ref a_t_depths, .ref a_t_lives, .ref a_t_stops])), (a_t_depths, .inl (E.2.1, 108, .inl v_t_depths))] := by
  refine zM_int (ty := .int) (cc := cX1_depthOfPlate) (nL := 4) (by decide) (Nat.le_of_ble_eq_true rfl) ?_
  intro p e R s m args below meth c A Q ls hRf hRl hx hb hml hown hK hA hP hD hS hl ret
  have hT := hK.2
  have hown : s.vm.findClass RX1 = some m.cls := hown
  have hl : lv_has ls 4 [(0, .ref a_t), (1, .int p1)] := hl
  have hw1 : ∀ w ∈ u_ws RX1 TX1 4, w.before args s = true := fun w h => hT w (zl_X1 w h) args
  have h := hf
  unfold fX1_depthOfPlate at h
  refine lv_iconst (pc := 0) (v := (0 : Int32)) hx hb dX1_depthOfPlate_0 (by decide) ?_
  refine lv_istore_n (pc := 1) (lv' := [(2, .int (0 : Int32)), (0, .ref a_t), (1, .int p1)]) hx hb dX1_depthOfPlate_1 rfl hl (by decide) rfl (fun ls hl => ?_)
  refine lv_iload_n (pc := 2) hx hb dX1_depthOfPlate_2 rfl (lv_at hl 2 rfl) ?_
  refine lv_bipush (pc := 3) (v := (36 : Int32)) hx hb dX1_depthOfPlate_3 (by decide) ?_
  refine lv_imul (pc := 5) hx hb dX1_depthOfPlate_5 ?_
  refine lv_istore_n (pc := 6) (lv' := [(3, .int (p1 * (36 : Int32))), (2, .int (0 : Int32)), (0, .ref a_t), (1, .int p1)]) hx hb dX1_depthOfPlate_6 rfl hl (by decide) rfl (fun ls hl => ?_)
  have J7 : ∀ (n7 : Nat) (x7_2 : Int32) (x7_3 : Int32) (H : Heap) (locs : List Loc) (ls : Array Slot), fX1_depthOfPlate_7 v_t_depths p1 n7 x7_2 x7_3 = some u → lv_has ls 4 [(0, .ref a_t), (1, .int p1), (2, .int x7_2), (3, .int x7_3)] → va_P E.1 vwCl [(a_t, .inr (1, [.ref a_t_kinds, .ref a_t_depths, .ref a_t_lives, .ref a_t_stops])), (a_t_depths, .inl (E.2.1, 108, .inl v_t_depths))] H → va_D A [(a_t, .inr (1, [.ref a_t_kinds, .ref a_t_depths, .ref a_t_lives, .ref a_t_stops])), (a_t_depths, .inl (E.2.1, 108, .inl v_t_depths))] → va_S A s.heap H locs → W p l e R s m args below meth c H locs 0 0 Q (F0 m 7 ls []) := by
    intro n7
    induction n7 with
    | zero =>
      intro x7_2 x7_3 H locs ls h hl hP hD hS
      rw [fX1_depthOfPlate_7] at h
      cases h
    | succ n7 ih7 =>
      intro x7_2 x7_3 H locs ls h hl hP hD hS
      rw [fX1_depthOfPlate_7] at h
      refine lv_iload_n (pc := 7) hx hb dX1_depthOfPlate_7 rfl (lv_at hl 3 rfl) ?_
      refine lv_iload_n (pc := 8) hx hb dX1_depthOfPlate_8 rfl (lv_at hl 1 rfl) ?_
      refine lv_iconst (pc := 9) (v := (1 : Int32)) hx hb dX1_depthOfPlate_9 (by decide) ?_
      refine lv_iadd (pc := 10) hx hb dX1_depthOfPlate_10 ?_
      refine lv_bipush (pc := 11) (v := (36 : Int32)) hx hb dX1_depthOfPlate_11 (by decide) ?_
      refine lv_imul (pc := 13) hx hb dX1_depthOfPlate_13 ?_
      refine lv_icmp_ge (pc := 14) (tgt := 32) hx hb dX1_depthOfPlate_14 (by decide) (fun c1 => ?_) (fun c1 => ?_)
      · have h := r_pos h c1
        refine lv_iload_n (pc := 32) hx hb dX1_depthOfPlate_32 rfl (lv_at hl 2 rfl) ?_
        obtain rfl := Option.some.inj h
        exact ret _ _ 33 _ rfl dX1_depthOfPlate_33 hP hD hS
      · have h := r_neg h c1
        refine lv_iload_n (pc := 17) hx hb dX1_depthOfPlate_17 rfl (lv_at hl 2 rfl) ?_
        refine lv_aload_n (pc := 18) hx hb dX1_depthOfPlate_18 rfl (lv_at hl 0 rfl) ?_
        refine va_get (pc := 19) (ci := 1) (C := RX1) (T := TX1) (N := 4) hx hb hw1 (fun _ h9 => h9) hown hK.1 hP 0 rfl rfl 1 (by decide) (hT _ zw24 _) (fun _ h9 => h9) rfl dX1_depthOfPlate_19 ?_
        refine lv_iload_n (pc := 22) hx hb dX1_depthOfPlate_22 rfl (lv_at hl 3 rfl) ?_
        obtain ⟨hb2, h⟩ := r_in h
        refine va_iald (pc := 23) hx hb hK.1 hP 1 0 rfl rfl hb2 dX1_depthOfPlate_23 ?_
        refine lv_iadd (pc := 24) hx hb dX1_depthOfPlate_24 ?_
        refine lv_istore_n (pc := 25) (lv' := [(2, .int (x7_2 + (v_t_depths x7_3.toNatClampNeg))), (0, .ref a_t), (1, .int p1), (3, .int x7_3)]) hx hb dX1_depthOfPlate_25 rfl hl (by decide) rfl (fun ls hl => ?_)
        refine lv_iinc (pc := 26) (v := (x7_3 + (1 : Int32))) (lv' := [(3, .int (x7_3 + (1 : Int32))), (2, .int (x7_2 + (v_t_depths x7_3.toNatClampNeg))), (0, .ref a_t), (1, .int p1)]) hx hb dX1_depthOfPlate_26 hl (k := 3) rfl rfl (by decide) rfl (fun ls hl => ?_)
        refine lv_goto (pc := 29) (tgt := 7) hx hb dX1_depthOfPlate_29 (by decide) ?_
        exact ih7 (x7_2 + (v_t_depths x7_3.toNatClampNeg)) (x7_3 + (1 : Int32)) _ _ _ h (lv_sub hl [2, 3, 1, 0] rfl) hP hD hS
  exact J7 _ (0 : Int32) (p1 * (36 : Int32)) _ _ _ h (lv_sub hl [2, 3, 1, 0] rfl) hP hD hS
def fX1_scrapeCell_39 (v_t_depths : Nat → Int32) (p1 : Int32) (x10_3 : Int32) : Option ((Nat → Int32)) := some (upd v_t_depths p1.toNatClampNeg x10_3)
def fX1_scrapeCell_10 (v_t_depths : Nat → Int32) (p1 : Int32) (p2 : Int32) : Nat → Int32 → Int32 → Option ((Nat → Int32))
  | 0, _, _ => none
  | n10 + 1, x10_3, x10_4 => (if p2 ≤ x10_4 then fX1_scrapeCell_39 v_t_depths p1 x10_3 else (if x10_3 ≤ 0 then fX1_scrapeCell_39 v_t_depths p1 x10_3 else (fX1_scrapeCell_10 v_t_depths p1 p2 n10) (if (0 : Int32) < ((x10_3 - (x10_3 / (10 : Int32))) - (1 : Int32)) then ((x10_3 - (x10_3 / (10 : Int32))) - (1 : Int32)) else (0 : Int32)) (x10_4 + (1 : Int32))))
def fX1_scrapeCell (v_t_depths : Nat → Int32) (p1 : Int32) (p2 : Int32) : Option ((Nat → Int32)) := (if inb p1 108 = true then fX1_scrapeCell_10 v_t_depths p1 p2 100000 (v_t_depths p1.toNatClampNeg) (0 : Int32) else none)
set_option maxHeartbeats 4000000 in
set_option maxRecDepth 100000 in
theorem mt_X1_scrapeCell (E : zE) (l : Launch) (a_t : Nat) (a_t_kinds : Nat) (a_t_depths : Nat) (a_t_lives : Nat) (a_t_stops : Nat) (v_t_depths : Nat → Int32) (p1 : Int32) (p2 : Int32) (u : (Nat → Int32)) (hf : fX1_scrapeCell v_t_depths p1 p2 = some u)   : zM E l yX1_scrapeCell [.code yX1_scrapeCell cX1_scrapeCell 5 none] { frames := 1, cells := 0, slots := 0, locals := 13 } [.ref a_t, .int p1, .int p2] [(a_t, .inr (1, [.ref a_t_kinds, .ref a_t_depths, .ref a_t_lives, .ref a_t_stops])), (a_t_depths, .inl (E.2.1, 108, .inl v_t_depths))] (none) [(a_t, .inr (1, [.ref a_t_kinds, .ref a_t_depths, .ref a_t_lives, .ref a_t_stops])), (a_t_depths, .inl (E.2.1, 108, .inl u))] := by
  refine zM_void (cc := cX1_scrapeCell) (nL := 5) (by decide) (Nat.le_of_ble_eq_true rfl) ?_
  intro p e R s m args below meth c A Q ls hRf hRl hx hb hml hown hK hA hP hD hS hl ret
  have hT := hK.2
  have hown : s.vm.findClass RX1 = some m.cls := hown
  have hl : lv_has ls 5 [(0, .ref a_t), (1, .int p1), (2, .int p2)] := hl
  have hw1 : ∀ w ∈ u_ws RX1 TX1 4, w.before args s = true := fun w h => hT w (zl_X1 w h) args
  have h := hf
  unfold fX1_scrapeCell at h
  refine lv_aload_n (pc := 0) hx hb dX1_scrapeCell_0 rfl (lv_at hl 0 rfl) ?_
  refine va_get (pc := 1) (ci := 1) (C := RX1) (T := TX1) (N := 4) hx hb hw1 (fun _ h9 => h9) hown hK.1 hP 0 rfl rfl 1 (by decide) (hT _ zw24 _) (fun _ h9 => h9) rfl dX1_scrapeCell_1 ?_
  refine lv_iload_n (pc := 4) hx hb dX1_scrapeCell_4 rfl (lv_at hl 1 rfl) ?_
  obtain ⟨hb1, h⟩ := r_in h
  refine va_iald (pc := 5) hx hb hK.1 hP 1 0 rfl rfl hb1 dX1_scrapeCell_5 ?_
  refine lv_istore_n (pc := 6) (lv' := [(3, .int (v_t_depths p1.toNatClampNeg)), (0, .ref a_t), (1, .int p1), (2, .int p2)]) hx hb dX1_scrapeCell_6 rfl hl (by decide) rfl (fun ls hl => ?_)
  refine lv_iconst (pc := 7) (v := (0 : Int32)) hx hb dX1_scrapeCell_7 (by decide) ?_
  refine lv_istore (pc := 8) (lv' := [(4, .int (0 : Int32)), (3, .int (v_t_depths p1.toNatClampNeg)), (0, .ref a_t), (1, .int p1), (2, .int p2)]) hx hb dX1_scrapeCell_8 hl (by decide) rfl (fun ls hl => ?_)
  have J10 : ∀ (n10 : Nat) (x10_3 : Int32) (x10_4 : Int32) (H : Heap) (locs : List Loc) (ls : Array Slot), fX1_scrapeCell_10 v_t_depths p1 p2 n10 x10_3 x10_4 = some u → lv_has ls 5 [(0, .ref a_t), (1, .int p1), (2, .int p2), (3, .int x10_3), (4, .int x10_4)] → va_P E.1 vwCl [(a_t, .inr (1, [.ref a_t_kinds, .ref a_t_depths, .ref a_t_lives, .ref a_t_stops])), (a_t_depths, .inl (E.2.1, 108, .inl v_t_depths))] H → va_D A [(a_t, .inr (1, [.ref a_t_kinds, .ref a_t_depths, .ref a_t_lives, .ref a_t_stops])), (a_t_depths, .inl (E.2.1, 108, .inl v_t_depths))] → va_S A s.heap H locs → W p l e R s m args below meth c H locs 0 0 Q (F0 m 10 ls []) := by
    intro n10
    induction n10 with
    | zero =>
      intro x10_3 x10_4 H locs ls h hl hP hD hS
      rw [fX1_scrapeCell_10] at h
      cases h
    | succ n10 ih10 =>
      intro x10_3 x10_4 H locs ls h hl hP hD hS
      rw [fX1_scrapeCell_10] at h
      refine lv_iload (pc := 10) hx hb dX1_scrapeCell_10 (lv_at hl 4 rfl) ?_
      refine lv_iload_n (pc := 12) hx hb dX1_scrapeCell_12 rfl (lv_at hl 2 rfl) ?_
      have J39 : ∀ (H : Heap) (locs : List Loc) (ls : Array Slot), fX1_scrapeCell_39 v_t_depths p1 x10_3 = some u → lv_has ls 5 [(0, .ref a_t), (1, .int p1), (3, .int x10_3)] → va_P E.1 vwCl [(a_t, .inr (1, [.ref a_t_kinds, .ref a_t_depths, .ref a_t_lives, .ref a_t_stops])), (a_t_depths, .inl (E.2.1, 108, .inl v_t_depths))] H → va_D A [(a_t, .inr (1, [.ref a_t_kinds, .ref a_t_depths, .ref a_t_lives, .ref a_t_stops])), (a_t_depths, .inl (E.2.1, 108, .inl v_t_depths))] → va_S A s.heap H locs → W p l e R s m args below meth c H locs 0 0 Q (F0 m 39 ls []) := by
        intro H locs ls h hl hP hD hS
        unfold fX1_scrapeCell_39 at h
        refine lv_aload_n (pc := 39) hx hb dX1_scrapeCell_39 rfl (lv_at hl 0 rfl) ?_
        refine va_get (pc := 40) (ci := 1) (C := RX1) (T := TX1) (N := 4) hx hb hw1 (fun _ h9 => h9) hown hK.1 hP 0 rfl rfl 1 (by decide) (hT _ zw24 _) (fun _ h9 => h9) rfl dX1_scrapeCell_40 ?_
        refine lv_iload_n (pc := 43) hx hb dX1_scrapeCell_43 rfl (lv_at hl 1 rfl) ?_
        refine lv_iload_n (pc := 44) hx hb dX1_scrapeCell_44 rfl (lv_at hl 2 rfl) ?_
        refine va_iast (pc := 45) hx hb hK.1 hP hD hS 1 0 rfl rfl hb1 dX1_scrapeCell_45 (fun H locs hP hD hS => ?_)
        have hP : va_P E.1 vwCl [(a_t, .inr (1, [.ref a_t_kinds, .ref a_t_depths, .ref a_t_lives, .ref a_t_stops])), (a_t_depths, .inl (E.2.1, 108, .inl (upd v_t_depths p1.toNatClampNeg x10_3)))] H := hP
        have hD : va_D A [(a_t, .inr (1, [.ref a_t_kinds, .ref a_t_depths, .ref a_t_lives, .ref a_t_stops])), (a_t_depths, .inl (E.2.1, 108, .inl (upd v_t_depths p1.toNatClampNeg x10_3)))] := hD
        obtain rfl := Option.some.inj h
        exact ret _ _ 46 _ dX1_scrapeCell_46 hP hD hS
      refine lv_icmp_ge (pc := 13) (tgt := 39) hx hb dX1_scrapeCell_13 (by decide) (fun c2 => ?_) (fun c2 => ?_)
      · have h := r_pos h c2
        exact J39 _ _ _ h (lv_sub hl [0, 1, 3] rfl) hP hD hS
      · have h := r_neg h c2
        refine lv_iload_n (pc := 16) hx hb dX1_scrapeCell_16 rfl (lv_at hl 3 rfl) ?_
        refine lv_if_le (pc := 17) (tgt := 39) hx hb dX1_scrapeCell_17 (by decide) (fun c3 => ?_) (fun c3 => ?_)
        · have h := r_pos h c3
          exact J39 _ _ _ h (lv_sub hl [0, 1, 3] rfl) hP hD hS
        · have h := r_neg h c3
          refine lv_iconst (pc := 20) (v := (0 : Int32)) hx hb dX1_scrapeCell_20 (by decide) ?_
          refine lv_iload_n (pc := 21) hx hb dX1_scrapeCell_21 rfl (lv_at hl 3 rfl) ?_
          refine lv_iload_n (pc := 22) hx hb dX1_scrapeCell_22 rfl (lv_at hl 3 rfl) ?_
          refine lv_bipush (pc := 23) (v := (10 : Int32)) hx hb dX1_scrapeCell_23 (by decide) ?_
          refine lv_idiv (pc := 25) hx hb dX1_scrapeCell_25 (by decide) ?_
          refine lv_isub (pc := 26) hx hb dX1_scrapeCell_26 ?_
          refine lv_iconst (pc := 27) (v := (1 : Int32)) hx hb dX1_scrapeCell_27 (by decide) ?_
          refine lv_isub (pc := 28) hx hb dX1_scrapeCell_28 ?_
          refine va_mmax (pc := 29) hx hb (by rw [hml]; exact hl.1.symm) hown (hT _ zw41 _) (hT _ zw42 _) (hT _ zw6 _) (hT _ zw43 _) (Nat.le_trans (Nat.le_of_ble_eq_true rfl) hRf) (Nat.le_trans (Nat.le_of_ble_eq_true rfl) hRl) (Nat.zero_le _) (Nat.zero_le _) dX1_scrapeCell_29 ?_
          refine lv_istore_n (pc := 32) (lv' := [(3, .int (if (0 : Int32) < ((x10_3 - (x10_3 / (10 : Int32))) - (1 : Int32)) then ((x10_3 - (x10_3 / (10 : Int32))) - (1 : Int32)) else (0 : Int32))), (0, .ref a_t), (1, .int p1), (2, .int p2), (4, .int x10_4)]) hx hb dX1_scrapeCell_32 rfl hl (by decide) rfl (fun ls hl => ?_)
          refine lv_iinc (pc := 33) (v := (x10_4 + (1 : Int32))) (lv' := [(4, .int (x10_4 + (1 : Int32))), (3, .int (if (0 : Int32) < ((x10_3 - (x10_3 / (10 : Int32))) - (1 : Int32)) then ((x10_3 - (x10_3 / (10 : Int32))) - (1 : Int32)) else (0 : Int32))), (0, .ref a_t), (1, .int p1), (2, .int p2)]) hx hb dX1_scrapeCell_33 hl (k := 4) rfl rfl (by decide) rfl (fun ls hl => ?_)
          refine lv_goto (pc := 36) (tgt := 10) hx hb dX1_scrapeCell_36 (by decide) ?_
          exact ih10 (if (0 : Int32) < ((x10_3 - (x10_3 / (10 : Int32))) - (1 : Int32)) then ((x10_3 - (x10_3 / (10 : Int32))) - (1 : Int32)) else (0 : Int32)) (x10_4 + (1 : Int32)) _ _ _ h (lv_sub hl [2, 3, 4, 1, 0] rfl) hP hD hS
  exact J10 _ (v_t_depths p1.toNatClampNeg) (0 : Int32) _ _ _ h (lv_sub hl [2, 3, 4, 1, 0] rfl) hP hD hS
def fX1_minuteOfDepth (v_t_kinds : Nat → Int32) (v_t_depths : Nat → Int32) (v_t_lives : Nat → Int32) (p1 : Int32) (p2 : Int32) (p3 : Int32) : Option (Int32) := (if inb p1 108 = true then (if 0 < (p2 - (v_t_depths p1.toNatClampNeg)) then ((fX1_timesBite v_t_kinds v_t_lives p1).bind fun u3 => (if 0 < (u3 * p3) then (if (u3 * p3) = 0 then none else ((fX1_bitingMinutes v_t_kinds v_t_lives p1 (200 : Int32)).bind fun u7 => (if u7 < ((((p2 - (v_t_depths p1.toNatClampNeg)) + (u3 * p3)) - (1 : Int32)) / (u3 * p3)) then some (201 : Int32) else some ((((p2 - (v_t_depths p1.toNatClampNeg)) + (u3 * p3)) - (1 : Int32)) / (u3 * p3))))) else some (201 : Int32))) else some (0 : Int32)) else none)
set_option maxHeartbeats 4000000 in
set_option maxRecDepth 100000 in
theorem mt_X1_minuteOfDepth (E : zE) (l : Launch) (a_t : Nat) (a_t_kinds : Nat) (a_t_depths : Nat) (a_t_lives : Nat) (a_t_stops : Nat) (v_t_kinds : Nat → Int32) (v_t_depths : Nat → Int32) (v_t_lives : Nat → Int32) (p1 : Int32) (p2 : Int32) (p3 : Int32) (u : Int32) (hf : fX1_minuteOfDepth v_t_kinds v_t_depths v_t_lives p1 p2 p3 = some u)   : zM E l yX1_minuteOfDepth [.code yX1_minuteOfDepth cX1_minuteOfDepth 7 (some .int)] { frames := 2, cells := 0, slots := 0, locals := 35 } [.ref a_t, .int p1, .int p2, .int p3] [(a_t, .inr (1, [.ref a_t_kinds, .ref a_t_depths, .ref a_t_lives, .ref a_t_stops])), (a_t_kinds, .inl (E.2.1, 108, .inl v_t_kinds)), (a_t_depths, .inl (E.2.1, 108, .inl v_t_depths)), (a_t_lives, .inl (E.2.1, 108, .inl v_t_lives))] (some u) [(a_t, .inr (1, [.ref a_t_kinds, .ref a_t_depths, .ref a_t_lives, .ref a_t_stops])), (a_t_kinds, .inl (E.2.1, 108, .inl v_t_kinds)), (a_t_depths, .inl (E.2.1, 108, .inl v_t_depths)), (a_t_lives, .inl (E.2.1, 108, .inl v_t_lives))] := by
  refine zM_int (ty := .int) (cc := cX1_minuteOfDepth) (nL := 7) (by decide) (Nat.le_of_ble_eq_true rfl) ?_
  intro p e R s m args below meth c A Q ls hRf hRl hx hb hml hown hK hA hP hD hS hl ret
  have hT := hK.2
  have hown : s.vm.findClass RX1 = some m.cls := hown
  have hl : lv_has ls 7 [(0, .ref a_t), (1, .int p1), (2, .int p2), (3, .int p3)] := hl
  have hw1 : ∀ w ∈ u_ws RX1 TX1 4, w.before args s = true := fun w h => hT w (zl_X1 w h) args
  have h := hf
  unfold fX1_minuteOfDepth at h
  refine lv_iload_n (pc := 0) hx hb dX1_minuteOfDepth_0 rfl (lv_at hl 2 rfl) ?_
  refine lv_aload_n (pc := 1) hx hb dX1_minuteOfDepth_1 rfl (lv_at hl 0 rfl) ?_
  refine va_get (pc := 2) (ci := 1) (C := RX1) (T := TX1) (N := 4) hx hb hw1 (fun _ h9 => h9) hown hK.1 hP 0 rfl rfl 1 (by decide) (hT _ zw24 _) (fun _ h9 => h9) rfl dX1_minuteOfDepth_2 ?_
  refine lv_iload_n (pc := 5) hx hb dX1_minuteOfDepth_5 rfl (lv_at hl 1 rfl) ?_
  obtain ⟨hb1, h⟩ := r_in h
  refine va_iald (pc := 6) hx hb hK.1 hP 2 0 rfl rfl hb1 dX1_minuteOfDepth_6 ?_
  refine lv_isub (pc := 7) hx hb dX1_minuteOfDepth_7 ?_
  refine lv_istore (pc := 8) (lv' := [(4, .int (p2 - (v_t_depths p1.toNatClampNeg))), (0, .ref a_t), (1, .int p1), (2, .int p2), (3, .int p3)]) hx hb dX1_minuteOfDepth_8 hl (by decide) rfl (fun ls hl => ?_)
  refine lv_iload (pc := 10) hx hb dX1_minuteOfDepth_10 (lv_at hl 0 rfl) ?_
  refine lv_if_gt (pc := 12) (tgt := 17) hx hb dX1_minuteOfDepth_12 (by decide) (fun c2 => ?_) (fun c2 => ?_)
  · have h := r_pos h c2
    refine lv_aload_n (pc := 17) hx hb dX1_minuteOfDepth_17 rfl (lv_at hl 1 rfl) ?_
    refine lv_iload_n (pc := 18) hx hb dX1_minuteOfDepth_18 rfl (lv_at hl 2 rfl) ?_
    obtain ⟨u3, hg4, h⟩ := r_bind h
    refine z_callV (pc := 19) (n := 1) (o := some u3) (As := [.int p1]) (rest := []) (ci := 1) (q0 := 0) (wc := [(a_t, .inr (1, [.ref a_t_kinds, .ref a_t_depths, .ref a_t_lives, .ref a_t_stops])), (a_t_kinds, .inl (E.2.1, 108, .inl v_t_kinds)), (a_t_lives, .inl (E.2.1, 108, .inl v_t_lives))]) (wc' := [(a_t, .inr (1, [.ref a_t_kinds, .ref a_t_depths, .ref a_t_lives, .ref a_t_stops])), (a_t_kinds, .inl (E.2.1, 108, .inl v_t_kinds)), (a_t_lives, .inl (E.2.1, 108, .inl v_t_lives))]) (wr := [(a_t_depths, .inl (E.2.1, 108, .inl v_t_depths))]) hx hb hml hown hK hA hP hD hS hl.1 ⟨Nat.zero_le _, Nat.zero_le _⟩ (mt_X1_timesBite E l a_t a_t_kinds a_t_depths a_t_lives a_t_stops v_t_kinds v_t_lives p1 u3 hg4) zw33 zw34 zw35 zw31 zw36 (by decide +kernel) rfl ⟨rfl, rfl, Nat.le_trans (Nat.le_of_ble_eq_true rfl) hRf, Nat.le_trans (Nat.le_of_ble_eq_true rfl) hRl⟩ [0, 1, 3] [2] (by decide) rfl rfl (by decide) (by decide) rfl rfl rfl (Nat.le_of_ble_eq_true rfl) dX1_minuteOfDepth_19 (fun H locs hP hD hS => ?_)
    have hP : va_P E.1 vwCl [(a_t_depths, .inl (E.2.1, 108, .inl v_t_depths)), (a_t, .inr (1, [.ref a_t_kinds, .ref a_t_depths, .ref a_t_lives, .ref a_t_stops])), (a_t_kinds, .inl (E.2.1, 108, .inl v_t_kinds)), (a_t_lives, .inl (E.2.1, 108, .inl v_t_lives))] H := hP
    have hD : va_D A [(a_t_depths, .inl (E.2.1, 108, .inl v_t_depths)), (a_t, .inr (1, [.ref a_t_kinds, .ref a_t_depths, .ref a_t_lives, .ref a_t_stops])), (a_t_kinds, .inl (E.2.1, 108, .inl v_t_kinds)), (a_t_lives, .inl (E.2.1, 108, .inl v_t_lives))] := hD
    refine lv_iload_n (pc := 22) hx hb dX1_minuteOfDepth_22 rfl (lv_at hl 4 rfl) ?_
    refine lv_imul (pc := 23) hx hb dX1_minuteOfDepth_23 ?_
    refine lv_istore (pc := 24) (lv' := [(5, .int (u3 * p3)), (4, .int (p2 - (v_t_depths p1.toNatClampNeg))), (0, .ref a_t), (1, .int p1), (2, .int p2), (3, .int p3)]) hx hb dX1_minuteOfDepth_24 hl (by decide) rfl (fun ls hl => ?_)
    refine lv_iload (pc := 26) hx hb dX1_minuteOfDepth_26 (lv_at hl 0 rfl) ?_
    refine lv_if_gt (pc := 28) (tgt := 35) hx hb dX1_minuteOfDepth_28 (by decide) (fun c5 => ?_) (fun c5 => ?_)
    · have h := r_pos h c5
      refine lv_iload (pc := 35) hx hb dX1_minuteOfDepth_35 (lv_at hl 1 rfl) ?_
      refine lv_iload (pc := 37) hx hb dX1_minuteOfDepth_37 (lv_at hl 0 rfl) ?_
      refine lv_iadd (pc := 39) hx hb dX1_minuteOfDepth_39 ?_
      refine lv_iconst (pc := 40) (v := (1 : Int32)) hx hb dX1_minuteOfDepth_40 (by decide) ?_
      refine lv_isub (pc := 41) hx hb dX1_minuteOfDepth_41 ?_
      refine lv_iload (pc := 42) hx hb dX1_minuteOfDepth_42 (lv_at hl 0 rfl) ?_
      obtain ⟨hz6, h⟩ := r_nz h
      refine lv_idiv (pc := 44) hx hb dX1_minuteOfDepth_44 hz6 ?_
      refine lv_istore (pc := 45) (lv' := [(6, .int ((((p2 - (v_t_depths p1.toNatClampNeg)) + (u3 * p3)) - (1 : Int32)) / (u3 * p3))), (5, .int (u3 * p3)), (4, .int (p2 - (v_t_depths p1.toNatClampNeg))), (0, .ref a_t), (1, .int p1), (2, .int p2), (3, .int p3)]) hx hb dX1_minuteOfDepth_45 hl (by decide) rfl (fun ls hl => ?_)
      refine lv_iload (pc := 47) hx hb dX1_minuteOfDepth_47 (lv_at hl 0 rfl) ?_
      refine lv_aload_n (pc := 49) hx hb dX1_minuteOfDepth_49 rfl (lv_at hl 3 rfl) ?_
      refine lv_iload_n (pc := 50) hx hb dX1_minuteOfDepth_50 rfl (lv_at hl 4 rfl) ?_
      refine lv_sipush (pc := 51) (v := (200 : Int32)) hx hb dX1_minuteOfDepth_51 (by decide) ?_
      obtain ⟨u7, hg8, h⟩ := r_bind h
      refine z_callV (pc := 54) (n := 2) (o := some u7) (As := [.int p1, .int (200 : Int32)]) (rest := [.int ((((p2 - (v_t_depths p1.toNatClampNeg)) + (u3 * p3)) - (1 : Int32)) / (u3 * p3))]) (ci := 1) (q0 := 0) (wc := [(a_t, .inr (1, [.ref a_t_kinds, .ref a_t_depths, .ref a_t_lives, .ref a_t_stops])), (a_t_kinds, .inl (E.2.1, 108, .inl v_t_kinds)), (a_t_lives, .inl (E.2.1, 108, .inl v_t_lives))]) (wc' := [(a_t, .inr (1, [.ref a_t_kinds, .ref a_t_depths, .ref a_t_lives, .ref a_t_stops])), (a_t_kinds, .inl (E.2.1, 108, .inl v_t_kinds)), (a_t_lives, .inl (E.2.1, 108, .inl v_t_lives))]) (wr := [(a_t_depths, .inl (E.2.1, 108, .inl v_t_depths))]) hx hb hml hown hK hA hP hD hS hl.1 ⟨Nat.zero_le _, Nat.zero_le _⟩ (mt_X1_bitingMinutes E l a_t a_t_kinds a_t_depths a_t_lives a_t_stops v_t_kinds v_t_lives p1 (200 : Int32) u7 hg8) zw28 zw29 zw30 zw31 zw32 (by decide +kernel) rfl ⟨rfl, rfl, Nat.le_trans (Nat.le_of_ble_eq_true rfl) hRf, Nat.le_trans (Nat.le_of_ble_eq_true rfl) hRl⟩ [1, 2, 3] [0] (by decide) rfl rfl (by decide) (by decide) rfl rfl rfl (Nat.le_of_ble_eq_true rfl) dX1_minuteOfDepth_54 (fun H locs hP hD hS => ?_)
      have hP : va_P E.1 vwCl [(a_t_depths, .inl (E.2.1, 108, .inl v_t_depths)), (a_t, .inr (1, [.ref a_t_kinds, .ref a_t_depths, .ref a_t_lives, .ref a_t_stops])), (a_t_kinds, .inl (E.2.1, 108, .inl v_t_kinds)), (a_t_lives, .inl (E.2.1, 108, .inl v_t_lives))] H := hP
      have hD : va_D A [(a_t_depths, .inl (E.2.1, 108, .inl v_t_depths)), (a_t, .inr (1, [.ref a_t_kinds, .ref a_t_depths, .ref a_t_lives, .ref a_t_stops])), (a_t_kinds, .inl (E.2.1, 108, .inl v_t_kinds)), (a_t_lives, .inl (E.2.1, 108, .inl v_t_lives))] := hD
      refine lv_icmp_gt (pc := 57) (tgt := 65) hx hb dX1_minuteOfDepth_57 (by decide) (fun c9 => ?_) (fun c9 => ?_)
      · have h := r_pos h c9
        refine lv_sipush (pc := 65) (v := (201 : Int32)) hx hb dX1_minuteOfDepth_65 (by decide) ?_
        obtain rfl := Option.some.inj h
        exact ret _ _ 68 _ rfl dX1_minuteOfDepth_68 (hP.sub [1, 2, 0, 3] rfl) (hD.sub [1, 2, 0, 3] (by decide) rfl) hS
      · have h := r_neg h c9
        refine lv_iload (pc := 60) hx hb dX1_minuteOfDepth_60 (lv_at hl 0 rfl) ?_
        refine lv_goto (pc := 62) (tgt := 68) hx hb dX1_minuteOfDepth_62 (by decide) ?_
        obtain rfl := Option.some.inj h
        exact ret _ _ 68 _ rfl dX1_minuteOfDepth_68 (hP.sub [1, 2, 0, 3] rfl) (hD.sub [1, 2, 0, 3] (by decide) rfl) hS
    · have h := r_neg h c5
      refine lv_sipush (pc := 31) (v := (201 : Int32)) hx hb dX1_minuteOfDepth_31 (by decide) ?_
      obtain rfl := Option.some.inj h
      exact ret _ _ 34 _ rfl dX1_minuteOfDepth_34 (hP.sub [1, 2, 0, 3] rfl) (hD.sub [1, 2, 0, 3] (by decide) rfl) hS
  · have h := r_neg h c2
    refine lv_iconst (pc := 15) (v := (0 : Int32)) hx hb dX1_minuteOfDepth_15 (by decide) ?_
    obtain rfl := Option.some.inj h
    exact ret _ _ 16 _ rfl dX1_minuteOfDepth_16 hP hD hS
def fX1_firstMinute (v_t_kinds : Nat → Int32) (v_t_depths : Nat → Int32) (v_t_lives : Nat → Int32) (p1 : Int32) (p2 : Int32) (p3 : Int32) : Option (Int32) := ((fX1_minuteOfDepth v_t_kinds v_t_depths v_t_lives p1 (p2 * (40 : Int32)) p3).bind fun u1 => some u1)
set_option maxHeartbeats 4000000 in
set_option maxRecDepth 100000 in
theorem mt_X1_firstMinute (E : zE) (l : Launch) (a_t : Nat) (a_t_kinds : Nat) (a_t_depths : Nat) (a_t_lives : Nat) (a_t_stops : Nat) (v_t_kinds : Nat → Int32) (v_t_depths : Nat → Int32) (v_t_lives : Nat → Int32) (p1 : Int32) (p2 : Int32) (p3 : Int32) (u : Int32) (hf : fX1_firstMinute v_t_kinds v_t_depths v_t_lives p1 p2 p3 = some u)   : zM E l yX1_firstMinute [.code yX1_firstMinute cX1_firstMinute 4 (some .int)] { frames := 3, cells := 0, slots := 0, locals := 61 } [.ref a_t, .int p1, .int p2, .int p3] [(a_t, .inr (1, [.ref a_t_kinds, .ref a_t_depths, .ref a_t_lives, .ref a_t_stops])), (a_t_kinds, .inl (E.2.1, 108, .inl v_t_kinds)), (a_t_depths, .inl (E.2.1, 108, .inl v_t_depths)), (a_t_lives, .inl (E.2.1, 108, .inl v_t_lives))] (some u) [(a_t, .inr (1, [.ref a_t_kinds, .ref a_t_depths, .ref a_t_lives, .ref a_t_stops])), (a_t_kinds, .inl (E.2.1, 108, .inl v_t_kinds)), (a_t_depths, .inl (E.2.1, 108, .inl v_t_depths)), (a_t_lives, .inl (E.2.1, 108, .inl v_t_lives))] := by
  refine zM_int (ty := .int) (cc := cX1_firstMinute) (nL := 4) (by decide) (Nat.le_of_ble_eq_true rfl) ?_
  intro p e R s m args below meth c A Q ls hRf hRl hx hb hml hown hK hA hP hD hS hl ret
  have hT := hK.2
  have hown : s.vm.findClass RX1 = some m.cls := hown
  have hl : lv_has ls 4 [(0, .ref a_t), (1, .int p1), (2, .int p2), (3, .int p3)] := hl
  have h := hf
  unfold fX1_firstMinute at h
  refine lv_aload_n (pc := 0) hx hb dX1_firstMinute_0 rfl (lv_at hl 0 rfl) ?_
  refine lv_iload_n (pc := 1) hx hb dX1_firstMinute_1 rfl (lv_at hl 1 rfl) ?_
  refine lv_iload_n (pc := 2) hx hb dX1_firstMinute_2 rfl (lv_at hl 2 rfl) ?_
  refine lv_bipush (pc := 3) (v := (40 : Int32)) hx hb dX1_firstMinute_3 (by decide) ?_
  refine lv_imul (pc := 5) hx hb dX1_firstMinute_5 ?_
  refine lv_iload_n (pc := 6) hx hb dX1_firstMinute_6 rfl (lv_at hl 3 rfl) ?_
  obtain ⟨u1, hg2, h⟩ := r_bind h
  refine z_callV (pc := 7) (n := 3) (o := some u1) (As := [.int p1, .int (p2 * (40 : Int32)), .int p3]) (rest := []) (ci := 1) (q0 := 0) (wc := [(a_t, .inr (1, [.ref a_t_kinds, .ref a_t_depths, .ref a_t_lives, .ref a_t_stops])), (a_t_kinds, .inl (E.2.1, 108, .inl v_t_kinds)), (a_t_depths, .inl (E.2.1, 108, .inl v_t_depths)), (a_t_lives, .inl (E.2.1, 108, .inl v_t_lives))]) (wc' := [(a_t, .inr (1, [.ref a_t_kinds, .ref a_t_depths, .ref a_t_lives, .ref a_t_stops])), (a_t_kinds, .inl (E.2.1, 108, .inl v_t_kinds)), (a_t_depths, .inl (E.2.1, 108, .inl v_t_depths)), (a_t_lives, .inl (E.2.1, 108, .inl v_t_lives))]) (wr := []) hx hb hml hown hK hA hP hD hS hl.1 ⟨Nat.zero_le _, Nat.zero_le _⟩ (mt_X1_minuteOfDepth E l a_t a_t_kinds a_t_depths a_t_lives a_t_stops v_t_kinds v_t_depths v_t_lives p1 (p2 * (40 : Int32)) p3 u1 hg2) zw44 zw45 zw46 zw31 zw47 (by decide +kernel) rfl ⟨rfl, rfl, Nat.le_trans (Nat.le_of_ble_eq_true rfl) hRf, Nat.le_trans (Nat.le_of_ble_eq_true rfl) hRl⟩ [0, 1, 2, 3] [] (by decide) rfl rfl (by decide) (by decide) rfl rfl rfl (Nat.le_of_ble_eq_true rfl) dX1_firstMinute_7 (fun H locs hP hD hS => ?_)
  have hP : va_P E.1 vwCl [(a_t, .inr (1, [.ref a_t_kinds, .ref a_t_depths, .ref a_t_lives, .ref a_t_stops])), (a_t_kinds, .inl (E.2.1, 108, .inl v_t_kinds)), (a_t_depths, .inl (E.2.1, 108, .inl v_t_depths)), (a_t_lives, .inl (E.2.1, 108, .inl v_t_lives))] H := hP
  have hD : va_D A [(a_t, .inr (1, [.ref a_t_kinds, .ref a_t_depths, .ref a_t_lives, .ref a_t_stops])), (a_t_kinds, .inl (E.2.1, 108, .inl v_t_kinds)), (a_t_depths, .inl (E.2.1, 108, .inl v_t_depths)), (a_t_lives, .inl (E.2.1, 108, .inl v_t_lives))] := hD
  obtain rfl := Option.some.inj h
  exact ret _ _ 10 _ rfl dX1_firstMinute_10 hP hD hS
def fX1_lastMinute (v_t_kinds : Nat → Int32) (v_t_depths : Nat → Int32) (v_t_lives : Nat → Int32) (p1 : Int32) (p2 : Int32) (p3 : Int32) : Option (Int32) := (if p2 < (15 : Int32) then ((fX1_minuteOfDepth v_t_kinds v_t_depths v_t_lives p1 ((p2 + (1 : Int32)) * (40 : Int32)) p3).bind fun u2 => some (u2 - (1 : Int32))) else some (200 : Int32))
set_option maxHeartbeats 4000000 in
set_option maxRecDepth 100000 in
theorem mt_X1_lastMinute (E : zE) (l : Launch) (a_t : Nat) (a_t_kinds : Nat) (a_t_depths : Nat) (a_t_lives : Nat) (a_t_stops : Nat) (v_t_kinds : Nat → Int32) (v_t_depths : Nat → Int32) (v_t_lives : Nat → Int32) (p1 : Int32) (p2 : Int32) (p3 : Int32) (u : Int32) (hf : fX1_lastMinute v_t_kinds v_t_depths v_t_lives p1 p2 p3 = some u)   : zM E l yX1_lastMinute [.code yX1_lastMinute cX1_lastMinute 4 (some .int)] { frames := 3, cells := 0, slots := 0, locals := 61 } [.ref a_t, .int p1, .int p2, .int p3] [(a_t, .inr (1, [.ref a_t_kinds, .ref a_t_depths, .ref a_t_lives, .ref a_t_stops])), (a_t_kinds, .inl (E.2.1, 108, .inl v_t_kinds)), (a_t_depths, .inl (E.2.1, 108, .inl v_t_depths)), (a_t_lives, .inl (E.2.1, 108, .inl v_t_lives))] (some u) [(a_t, .inr (1, [.ref a_t_kinds, .ref a_t_depths, .ref a_t_lives, .ref a_t_stops])), (a_t_kinds, .inl (E.2.1, 108, .inl v_t_kinds)), (a_t_depths, .inl (E.2.1, 108, .inl v_t_depths)), (a_t_lives, .inl (E.2.1, 108, .inl v_t_lives))] := by
  refine zM_int (ty := .int) (cc := cX1_lastMinute) (nL := 4) (by decide) (Nat.le_of_ble_eq_true rfl) ?_
  intro p e R s m args below meth c A Q ls hRf hRl hx hb hml hown hK hA hP hD hS hl ret
  have hT := hK.2
  have hown : s.vm.findClass RX1 = some m.cls := hown
  have hl : lv_has ls 4 [(0, .ref a_t), (1, .int p1), (2, .int p2), (3, .int p3)] := hl
  have h := hf
  unfold fX1_lastMinute at h
  refine lv_iload_n (pc := 0) hx hb dX1_lastMinute_0 rfl (lv_at hl 2 rfl) ?_
  refine lv_bipush (pc := 1) (v := (15 : Int32)) hx hb dX1_lastMinute_1 (by decide) ?_
  refine lv_icmp_lt (pc := 3) (tgt := 10) hx hb dX1_lastMinute_3 (by decide) (fun c1 => ?_) (fun c1 => ?_)
  · have h := r_pos h c1
    refine lv_aload_n (pc := 10) hx hb dX1_lastMinute_10 rfl (lv_at hl 0 rfl) ?_
    refine lv_iload_n (pc := 11) hx hb dX1_lastMinute_11 rfl (lv_at hl 1 rfl) ?_
    refine lv_iload_n (pc := 12) hx hb dX1_lastMinute_12 rfl (lv_at hl 2 rfl) ?_
    refine lv_iconst (pc := 13) (v := (1 : Int32)) hx hb dX1_lastMinute_13 (by decide) ?_
    refine lv_iadd (pc := 14) hx hb dX1_lastMinute_14 ?_
    refine lv_bipush (pc := 15) (v := (40 : Int32)) hx hb dX1_lastMinute_15 (by decide) ?_
    refine lv_imul (pc := 17) hx hb dX1_lastMinute_17 ?_
    refine lv_iload_n (pc := 18) hx hb dX1_lastMinute_18 rfl (lv_at hl 3 rfl) ?_
    obtain ⟨u2, hg3, h⟩ := r_bind h
    refine z_callV (pc := 19) (n := 3) (o := some u2) (As := [.int p1, .int ((p2 + (1 : Int32)) * (40 : Int32)), .int p3]) (rest := []) (ci := 1) (q0 := 0) (wc := [(a_t, .inr (1, [.ref a_t_kinds, .ref a_t_depths, .ref a_t_lives, .ref a_t_stops])), (a_t_kinds, .inl (E.2.1, 108, .inl v_t_kinds)), (a_t_depths, .inl (E.2.1, 108, .inl v_t_depths)), (a_t_lives, .inl (E.2.1, 108, .inl v_t_lives))]) (wc' := [(a_t, .inr (1, [.ref a_t_kinds, .ref a_t_depths, .ref a_t_lives, .ref a_t_stops])), (a_t_kinds, .inl (E.2.1, 108, .inl v_t_kinds)), (a_t_depths, .inl (E.2.1, 108, .inl v_t_depths)), (a_t_lives, .inl (E.2.1, 108, .inl v_t_lives))]) (wr := []) hx hb hml hown hK hA hP hD hS hl.1 ⟨Nat.zero_le _, Nat.zero_le _⟩ (mt_X1_minuteOfDepth E l a_t a_t_kinds a_t_depths a_t_lives a_t_stops v_t_kinds v_t_depths v_t_lives p1 ((p2 + (1 : Int32)) * (40 : Int32)) p3 u2 hg3) zw44 zw45 zw46 zw31 zw47 (by decide +kernel) rfl ⟨rfl, rfl, Nat.le_trans (Nat.le_of_ble_eq_true rfl) hRf, Nat.le_trans (Nat.le_of_ble_eq_true rfl) hRl⟩ [0, 1, 2, 3] [] (by decide) rfl rfl (by decide) (by decide) rfl rfl rfl (Nat.le_of_ble_eq_true rfl) dX1_lastMinute_19 (fun H locs hP hD hS => ?_)
    have hP : va_P E.1 vwCl [(a_t, .inr (1, [.ref a_t_kinds, .ref a_t_depths, .ref a_t_lives, .ref a_t_stops])), (a_t_kinds, .inl (E.2.1, 108, .inl v_t_kinds)), (a_t_depths, .inl (E.2.1, 108, .inl v_t_depths)), (a_t_lives, .inl (E.2.1, 108, .inl v_t_lives))] H := hP
    have hD : va_D A [(a_t, .inr (1, [.ref a_t_kinds, .ref a_t_depths, .ref a_t_lives, .ref a_t_stops])), (a_t_kinds, .inl (E.2.1, 108, .inl v_t_kinds)), (a_t_depths, .inl (E.2.1, 108, .inl v_t_depths)), (a_t_lives, .inl (E.2.1, 108, .inl v_t_lives))] := hD
    refine lv_iconst (pc := 22) (v := (1 : Int32)) hx hb dX1_lastMinute_22 (by decide) ?_
    refine lv_isub (pc := 23) hx hb dX1_lastMinute_23 ?_
    obtain rfl := Option.some.inj h
    exact ret _ _ 24 _ rfl dX1_lastMinute_24 hP hD hS
  · have h := r_neg h c1
    refine lv_sipush (pc := 6) (v := (200 : Int32)) hx hb dX1_lastMinute_6 (by decide) ?_
    obtain rfl := Option.some.inj h
    exact ret _ _ 9 _ rfl dX1_lastMinute_9 hP hD hS
def fX1_differences_73 (x8_4 : Int32) (k8 : Int32 → Int32 → Option (Int32)) (x73_3 : Int32) : Option (Int32) := k8 x73_3 (x8_4 + (1 : Int32))
def fX1_differences_70 (x8_3 : Int32) (x8_4 : Int32) (k8 : Int32 → Int32 → Option (Int32)) : Option (Int32) := fX1_differences_73 x8_4 k8 (x8_3 + (1 : Int32))
def fX1_differences_8 (v_t_kinds : Nat → Int32) (v_t_depths : Nat → Int32) (v_t_stops : Nat → Int32) (v_o1_kinds : Nat → Int32) (v_o1_depths : Nat → Int32) (v_o1_stops : Nat → Int32) (p2 : Int32) : Nat → Int32 → Int32 → Option (Int32)
  | 0, _, _ => none
  | n8 + 1, x8_3, x8_4 => (if ((p2 + (1 : Int32)) * (36 : Int32)) ≤ x8_4 then some x8_3 else (if inb x8_4 108 = true then (if (v_t_kinds x8_4.toNatClampNeg) = (v_o1_kinds x8_4.toNatClampNeg) then (if (v_t_depths x8_4.toNatClampNeg) = (v_o1_depths x8_4.toNatClampNeg) then (if (v_t_stops x8_4.toNatClampNeg) = (v_o1_stops x8_4.toNatClampNeg) then fX1_differences_73 x8_4 (fX1_differences_8 v_t_kinds v_t_depths v_t_stops v_o1_kinds v_o1_depths v_o1_stops p2 n8) x8_3 else fX1_differences_70 x8_3 x8_4 (fX1_differences_8 v_t_kinds v_t_depths v_t_stops v_o1_kinds v_o1_depths v_o1_stops p2 n8)) else fX1_differences_70 x8_3 x8_4 (fX1_differences_8 v_t_kinds v_t_depths v_t_stops v_o1_kinds v_o1_depths v_o1_stops p2 n8)) else fX1_differences_70 x8_3 x8_4 (fX1_differences_8 v_t_kinds v_t_depths v_t_stops v_o1_kinds v_o1_depths v_o1_stops p2 n8)) else none))
def fX1_differences (v_t_kinds : Nat → Int32) (v_t_depths : Nat → Int32) (v_t_stops : Nat → Int32) (v_o1_kinds : Nat → Int32) (v_o1_depths : Nat → Int32) (v_o1_stops : Nat → Int32) (p2 : Int32) : Option (Int32) := fX1_differences_8 v_t_kinds v_t_depths v_t_stops v_o1_kinds v_o1_depths v_o1_stops p2 100000 (0 : Int32) (p2 * (36 : Int32))
set_option maxHeartbeats 4000000 in
set_option maxRecDepth 100000 in
theorem mt_X1_differences (E : zE) (l : Launch) (a_t : Nat) (a_t_kinds : Nat) (a_t_depths : Nat) (a_t_lives : Nat) (a_t_stops : Nat) (a_o1 : Nat) (a_o1_kinds : Nat) (a_o1_depths : Nat) (a_o1_lives : Nat) (a_o1_stops : Nat) (v_t_kinds : Nat → Int32) (v_t_depths : Nat → Int32) (v_t_stops : Nat → Int32) (v_o1_kinds : Nat → Int32) (v_o1_depths : Nat → Int32) (v_o1_stops : Nat → Int32) (p2 : Int32) (u : Int32) (hf : fX1_differences v_t_kinds v_t_depths v_t_stops v_o1_kinds v_o1_depths v_o1_stops p2 = some u)   : zM E l yX1_differences [.code yX1_differences cX1_differences 5 (some .int)] { frames := 0, cells := 0, slots := 0, locals := 0 } [.ref a_t, .ref a_o1, .int p2] [(a_t, .inr (1, [.ref a_t_kinds, .ref a_t_depths, .ref a_t_lives, .ref a_t_stops])), (a_t_kinds, .inl (E.2.1, 108, .inl v_t_kinds)), (a_t_depths, .inl (E.2.1, 108, .inl v_t_depths)), (a_t_stops, .inl (E.2.2.1, 108, .inl v_t_stops)), (a_o1, .inr (1, [.ref a_o1_kinds, .ref a_o1_depths, .ref a_o1_lives, .ref a_o1_stops])), (a_o1_kinds, .inl (E.2.1, 108, .inl v_o1_kinds)), (a_o1_depths, .inl (E.2.1, 108, .inl v_o1_depths)), (a_o1_stops, .inl (E.2.2.1, 108, .inl v_o1_stops))] (some u) [(a_t, .inr (1, [.ref a_t_kinds, .ref a_t_depths, .ref a_t_lives, .ref a_t_stops])), (a_t_kinds, .inl (E.2.1, 108, .inl v_t_kinds)), (a_t_depths, .inl (E.2.1, 108, .inl v_t_depths)), (a_t_stops, .inl (E.2.2.1, 108, .inl v_t_stops)), (a_o1, .inr (1, [.ref a_o1_kinds, .ref a_o1_depths, .ref a_o1_lives, .ref a_o1_stops])), (a_o1_kinds, .inl (E.2.1, 108, .inl v_o1_kinds)), (a_o1_depths, .inl (E.2.1, 108, .inl v_o1_depths)), (a_o1_stops, .inl (E.2.2.1, 108, .inl v_o1_stops))] := by
  refine zM_int (ty := .int) (cc := cX1_differences) (nL := 5) (by decide) (Nat.le_of_ble_eq_true rfl) ?_
  intro p e R s m args below meth c A Q ls hRf hRl hx hb hml hown hK hA hP hD hS hl ret
  have hT := hK.2
  have hown : s.vm.findClass RX1 = some m.cls := hown
  have hl : lv_has ls 5 [(0, .ref a_t), (1, .ref a_o1), (2, .int p2)] := hl
  have hw1 : ∀ w ∈ u_ws RX1 TX1 4, w.before args s = true := fun w h => hT w (zl_X1 w h) args
  have h := hf
  unfold fX1_differences at h
  refine lv_iconst (pc := 0) (v := (0 : Int32)) hx hb dX1_differences_0 (by decide) ?_
  refine lv_istore_n (pc := 1) (lv' := [(3, .int (0 : Int32)), (0, .ref a_t), (1, .ref a_o1), (2, .int p2)]) hx hb dX1_differences_1 rfl hl (by decide) rfl (fun ls hl => ?_)
  refine lv_iload_n (pc := 2) hx hb dX1_differences_2 rfl (lv_at hl 3 rfl) ?_
  refine lv_bipush (pc := 3) (v := (36 : Int32)) hx hb dX1_differences_3 (by decide) ?_
  refine lv_imul (pc := 5) hx hb dX1_differences_5 ?_
  refine lv_istore (pc := 6) (lv' := [(4, .int (p2 * (36 : Int32))), (3, .int (0 : Int32)), (0, .ref a_t), (1, .ref a_o1), (2, .int p2)]) hx hb dX1_differences_6 hl (by decide) rfl (fun ls hl => ?_)
  have J8 : ∀ (n8 : Nat) (x8_3 : Int32) (x8_4 : Int32) (H : Heap) (locs : List Loc) (ls : Array Slot), fX1_differences_8 v_t_kinds v_t_depths v_t_stops v_o1_kinds v_o1_depths v_o1_stops p2 n8 x8_3 x8_4 = some u → lv_has ls 5 [(0, .ref a_t), (1, .ref a_o1), (2, .int p2), (3, .int x8_3), (4, .int x8_4)] → va_P E.1 vwCl [(a_t, .inr (1, [.ref a_t_kinds, .ref a_t_depths, .ref a_t_lives, .ref a_t_stops])), (a_t_kinds, .inl (E.2.1, 108, .inl v_t_kinds)), (a_t_depths, .inl (E.2.1, 108, .inl v_t_depths)), (a_t_stops, .inl (E.2.2.1, 108, .inl v_t_stops)), (a_o1, .inr (1, [.ref a_o1_kinds, .ref a_o1_depths, .ref a_o1_lives, .ref a_o1_stops])), (a_o1_kinds, .inl (E.2.1, 108, .inl v_o1_kinds)), (a_o1_depths, .inl (E.2.1, 108, .inl v_o1_depths)), (a_o1_stops, .inl (E.2.2.1, 108, .inl v_o1_stops))] H → va_D A [(a_t, .inr (1, [.ref a_t_kinds, .ref a_t_depths, .ref a_t_lives, .ref a_t_stops])), (a_t_kinds, .inl (E.2.1, 108, .inl v_t_kinds)), (a_t_depths, .inl (E.2.1, 108, .inl v_t_depths)), (a_t_stops, .inl (E.2.2.1, 108, .inl v_t_stops)), (a_o1, .inr (1, [.ref a_o1_kinds, .ref a_o1_depths, .ref a_o1_lives, .ref a_o1_stops])), (a_o1_kinds, .inl (E.2.1, 108, .inl v_o1_kinds)), (a_o1_depths, .inl (E.2.1, 108, .inl v_o1_depths)), (a_o1_stops, .inl (E.2.2.1, 108, .inl v_o1_stops))] → va_S A s.heap H locs → W p l e R s m args below meth c H locs 0 0 Q (F0 m 8 ls []) := by
    intro n8
    induction n8 with
    | zero =>
      intro x8_3 x8_4 H locs ls h hl hP hD hS
      rw [fX1_differences_8] at h
      cases h
    | succ n8 ih8 =>
      intro x8_3 x8_4 H locs ls h hl hP hD hS
      rw [fX1_differences_8] at h
      refine lv_iload (pc := 8) hx hb dX1_differences_8 (lv_at hl 4 rfl) ?_
      refine lv_iload_n (pc := 10) hx hb dX1_differences_10 rfl (lv_at hl 2 rfl) ?_
      refine lv_iconst (pc := 11) (v := (1 : Int32)) hx hb dX1_differences_11 (by decide) ?_
      refine lv_iadd (pc := 12) hx hb dX1_differences_12 ?_
      refine lv_bipush (pc := 13) (v := (36 : Int32)) hx hb dX1_differences_13 (by decide) ?_
      refine lv_imul (pc := 15) hx hb dX1_differences_15 ?_
      refine lv_icmp_ge (pc := 16) (tgt := 79) hx hb dX1_differences_16 (by decide) (fun c1 => ?_) (fun c1 => ?_)
      · have h := r_pos h c1
        refine lv_iload_n (pc := 79) hx hb dX1_differences_79 rfl (lv_at hl 3 rfl) ?_
        obtain rfl := Option.some.inj h
        exact ret _ _ 80 _ rfl dX1_differences_80 hP hD hS
      · have h := r_neg h c1
        refine lv_aload_n (pc := 19) hx hb dX1_differences_19 rfl (lv_at hl 0 rfl) ?_
        refine va_get (pc := 20) (ci := 1) (C := RX1) (T := TX1) (N := 4) hx hb hw1 (fun _ h9 => h9) hown hK.1 hP 0 rfl rfl 0 (by decide) (hT _ zw22 _) (fun _ h9 => h9) rfl dX1_differences_20 ?_
        refine lv_iload (pc := 23) hx hb dX1_differences_23 (lv_at hl 4 rfl) ?_
        obtain ⟨hb2, h⟩ := r_in h
        refine va_iald (pc := 25) hx hb hK.1 hP 1 0 rfl rfl hb2 dX1_differences_25 ?_
        refine lv_aload_n (pc := 26) hx hb dX1_differences_26 rfl (lv_at hl 1 rfl) ?_
        refine va_get (pc := 27) (ci := 1) (C := RX1) (T := TX1) (N := 4) hx hb hw1 (fun _ h9 => h9) hown hK.1 hP 4 rfl rfl 0 (by decide) (hT _ zw22 _) (fun _ h9 => h9) rfl dX1_differences_27 ?_
        refine lv_iload (pc := 30) hx hb dX1_differences_30 (lv_at hl 4 rfl) ?_
        refine va_iald (pc := 32) hx hb hK.1 hP 5 0 rfl rfl hb2 dX1_differences_32 ?_
        have J73 : ∀ (x73_3 : Int32) (H : Heap) (locs : List Loc) (ls : Array Slot), fX1_differences_73 x8_4 (fX1_differences_8 v_t_kinds v_t_depths v_t_stops v_o1_kinds v_o1_depths v_o1_stops p2 n8) x73_3 = some u → lv_has ls 5 [(0, .ref a_t), (1, .ref a_o1), (2, .int p2), (3, .int x73_3), (4, .int x8_4)] → va_P E.1 vwCl [(a_t, .inr (1, [.ref a_t_kinds, .ref a_t_depths, .ref a_t_lives, .ref a_t_stops])), (a_t_kinds, .inl (E.2.1, 108, .inl v_t_kinds)), (a_t_depths, .inl (E.2.1, 108, .inl v_t_depths)), (a_t_stops, .inl (E.2.2.1, 108, .inl v_t_stops)), (a_o1, .inr (1, [.ref a_o1_kinds, .ref a_o1_depths, .ref a_o1_lives, .ref a_o1_stops])), (a_o1_kinds, .inl (E.2.1, 108, .inl v_o1_kinds)), (a_o1_depths, .inl (E.2.1, 108, .inl v_o1_depths)), (a_o1_stops, .inl (E.2.2.1, 108, .inl v_o1_stops))] H → va_D A [(a_t, .inr (1, [.ref a_t_kinds, .ref a_t_depths, .ref a_t_lives, .ref a_t_stops])), (a_t_kinds, .inl (E.2.1, 108, .inl v_t_kinds)), (a_t_depths, .inl (E.2.1, 108, .inl v_t_depths)), (a_t_stops, .inl (E.2.2.1, 108, .inl v_t_stops)), (a_o1, .inr (1, [.ref a_o1_kinds, .ref a_o1_depths, .ref a_o1_lives, .ref a_o1_stops])), (a_o1_kinds, .inl (E.2.1, 108, .inl v_o1_kinds)), (a_o1_depths, .inl (E.2.1, 108, .inl v_o1_depths)), (a_o1_stops, .inl (E.2.2.1, 108, .inl v_o1_stops))] → va_S A s.heap H locs → W p l e R s m args below meth c H locs 0 0 Q (F0 m 73 ls []) := by
          intro x73_3 H locs ls h hl hP hD hS
          unfold fX1_differences_73 at h
          refine lv_iinc (pc := 73) (v := (x8_4 + (1 : Int32))) (lv' := [(4, .int (x8_4 + (1 : Int32))), (0, .ref a_t), (1, .ref a_o1), (2, .int p2), (3, .int x73_3)]) hx hb dX1_differences_73 hl (k := 4) rfl rfl (by decide) rfl (fun ls hl => ?_)
          refine lv_goto (pc := 76) (tgt := 8) hx hb dX1_differences_76 (by decide) ?_
          exact ih8 x73_3 (x8_4 + (1 : Int32)) _ _ _ h (lv_sub hl [1, 2, 3, 4, 0] rfl) hP hD hS
        have J70 : ∀ (H : Heap) (locs : List Loc) (ls : Array Slot), fX1_differences_70 x8_3 x8_4 (fX1_differences_8 v_t_kinds v_t_depths v_t_stops v_o1_kinds v_o1_depths v_o1_stops p2 n8) = some u → lv_has ls 5 [(0, .ref a_t), (1, .ref a_o1), (2, .int p2), (3, .int x8_3), (4, .int x8_4)] → va_P E.1 vwCl [(a_t, .inr (1, [.ref a_t_kinds, .ref a_t_depths, .ref a_t_lives, .ref a_t_stops])), (a_t_kinds, .inl (E.2.1, 108, .inl v_t_kinds)), (a_t_depths, .inl (E.2.1, 108, .inl v_t_depths)), (a_t_stops, .inl (E.2.2.1, 108, .inl v_t_stops)), (a_o1, .inr (1, [.ref a_o1_kinds, .ref a_o1_depths, .ref a_o1_lives, .ref a_o1_stops])), (a_o1_kinds, .inl (E.2.1, 108, .inl v_o1_kinds)), (a_o1_depths, .inl (E.2.1, 108, .inl v_o1_depths)), (a_o1_stops, .inl (E.2.2.1, 108, .inl v_o1_stops))] H → va_D A [(a_t, .inr (1, [.ref a_t_kinds, .ref a_t_depths, .ref a_t_lives, .ref a_t_stops])), (a_t_kinds, .inl (E.2.1, 108, .inl v_t_kinds)), (a_t_depths, .inl (E.2.1, 108, .inl v_t_depths)), (a_t_stops, .inl (E.2.2.1, 108, .inl v_t_stops)), (a_o1, .inr (1, [.ref a_o1_kinds, .ref a_o1_depths, .ref a_o1_lives, .ref a_o1_stops])), (a_o1_kinds, .inl (E.2.1, 108, .inl v_o1_kinds)), (a_o1_depths, .inl (E.2.1, 108, .inl v_o1_depths)), (a_o1_stops, .inl (E.2.2.1, 108, .inl v_o1_stops))] → va_S A s.heap H locs → W p l e R s m args below meth c H locs 0 0 Q (F0 m 70 ls []) := by
          intro H locs ls h hl hP hD hS
          unfold fX1_differences_70 at h
          refine lv_iinc (pc := 70) (v := (x8_3 + (1 : Int32))) (lv' := [(3, .int (x8_3 + (1 : Int32))), (0, .ref a_t), (1, .ref a_o1), (2, .int p2), (4, .int x8_4)]) hx hb dX1_differences_70 hl (k := 3) rfl rfl (by decide) rfl (fun ls hl => ?_)
          exact J73 (x8_3 + (1 : Int32)) _ _ _ h (lv_sub hl [1, 2, 3, 0, 4] rfl) hP hD hS
        refine lv_icmp_ne (pc := 33) (tgt := 70) hx hb dX1_differences_33 (by decide) (fun c3 => ?_) (fun c3 => ?_)
        · have h := r_neg h c3
          exact J70 _ _ _ h hl hP hD hS
        · have h := r_pos h c3
          refine lv_aload_n (pc := 36) hx hb dX1_differences_36 rfl (lv_at hl 0 rfl) ?_
          refine va_get (pc := 37) (ci := 1) (C := RX1) (T := TX1) (N := 4) hx hb hw1 (fun _ h9 => h9) hown hK.1 hP 0 rfl rfl 1 (by decide) (hT _ zw24 _) (fun _ h9 => h9) rfl dX1_differences_37 ?_
          refine lv_iload (pc := 40) hx hb dX1_differences_40 (lv_at hl 4 rfl) ?_
          refine va_iald (pc := 42) hx hb hK.1 hP 2 0 rfl rfl hb2 dX1_differences_42 ?_
          refine lv_aload_n (pc := 43) hx hb dX1_differences_43 rfl (lv_at hl 1 rfl) ?_
          refine va_get (pc := 44) (ci := 1) (C := RX1) (T := TX1) (N := 4) hx hb hw1 (fun _ h9 => h9) hown hK.1 hP 4 rfl rfl 1 (by decide) (hT _ zw24 _) (fun _ h9 => h9) rfl dX1_differences_44 ?_
          refine lv_iload (pc := 47) hx hb dX1_differences_47 (lv_at hl 4 rfl) ?_
          refine va_iald (pc := 49) hx hb hK.1 hP 6 0 rfl rfl hb2 dX1_differences_49 ?_
          refine lv_icmp_ne (pc := 50) (tgt := 70) hx hb dX1_differences_50 (by decide) (fun c4 => ?_) (fun c4 => ?_)
          · have h := r_neg h c4
            exact J70 _ _ _ h hl hP hD hS
          · have h := r_pos h c4
            refine lv_aload_n (pc := 53) hx hb dX1_differences_53 rfl (lv_at hl 0 rfl) ?_
            refine va_get (pc := 54) (ci := 1) (C := RX1) (T := TX1) (N := 4) hx hb hw1 (fun _ h9 => h9) hown hK.1 hP 0 rfl rfl 3 (by decide) (hT _ zw26 _) (fun _ h9 => h9) rfl dX1_differences_54 ?_
            refine lv_iload (pc := 57) hx hb dX1_differences_57 (lv_at hl 4 rfl) ?_
            refine va_zald (pc := 59) hx hb hK.1 hP 3 1 rfl rfl hb2 dX1_differences_59 ?_
            refine lv_aload_n (pc := 60) hx hb dX1_differences_60 rfl (lv_at hl 1 rfl) ?_
            refine va_get (pc := 61) (ci := 1) (C := RX1) (T := TX1) (N := 4) hx hb hw1 (fun _ h9 => h9) hown hK.1 hP 4 rfl rfl 3 (by decide) (hT _ zw26 _) (fun _ h9 => h9) rfl dX1_differences_61 ?_
            refine lv_iload (pc := 64) hx hb dX1_differences_64 (lv_at hl 4 rfl) ?_
            refine va_zald (pc := 66) hx hb hK.1 hP 7 1 rfl rfl hb2 dX1_differences_66 ?_
            refine lv_icmp_eq (pc := 67) (tgt := 73) hx hb dX1_differences_67 (by decide) (fun c5 => ?_) (fun c5 => ?_)
            · have h := r_pos h c5
              exact J73 x8_3 _ _ _ h hl hP hD hS
            · have h := r_neg h c5
              exact J70 _ _ _ h hl hP hD hS
  exact J8 _ (0 : Int32) (p2 * (36 : Int32)) _ _ _ h (lv_sub hl [2, 3, 4, 1, 0] rfl) hP hD hS
def fX1_copyPlate_5 (v_o1_kinds : Nat → Int32) (v_o1_depths : Nat → Int32) (v_o1_lives : Nat → Int32) (v_o1_stops : Nat → Int32) (p2 : Int32) : Nat → Int32 → (Nat → Int32) → (Nat → Int32) → (Nat → Int32) → (Nat → Int32) → Option ((Nat → Int32) × (Nat → Int32) × (Nat → Int32) × (Nat → Int32))
  | 0, _, _, _, _, _ => none
  | n5 + 1, x5_3, y5_t_kinds, y5_t_depths, y5_t_lives, y5_t_stops => (if ((p2 + (1 : Int32)) * (36 : Int32)) ≤ x5_3 then some (y5_t_kinds, y5_t_depths, y5_t_lives, y5_t_stops) else (if inb x5_3 108 = true then (fX1_copyPlate_5 v_o1_kinds v_o1_depths v_o1_lives v_o1_stops p2 n5) (x5_3 + (1 : Int32)) (upd y5_t_kinds x5_3.toNatClampNeg (v_o1_kinds x5_3.toNatClampNeg)) (upd y5_t_depths x5_3.toNatClampNeg (v_o1_depths x5_3.toNatClampNeg)) (upd y5_t_lives x5_3.toNatClampNeg (v_o1_lives x5_3.toNatClampNeg)) (upd y5_t_stops x5_3.toNatClampNeg ((v_o1_stops x5_3.toNatClampNeg) &&& (1 : Int32))) else none))
def fX1_copyPlate (v_t_kinds : Nat → Int32) (v_t_depths : Nat → Int32) (v_t_lives : Nat → Int32) (v_t_stops : Nat → Int32) (v_o1_kinds : Nat → Int32) (v_o1_depths : Nat → Int32) (v_o1_lives : Nat → Int32) (v_o1_stops : Nat → Int32) (p2 : Int32) : Option ((Nat → Int32) × (Nat → Int32) × (Nat → Int32) × (Nat → Int32)) := fX1_copyPlate_5 v_o1_kinds v_o1_depths v_o1_lives v_o1_stops p2 100000 (p2 * (36 : Int32)) v_t_kinds v_t_depths v_t_lives v_t_stops
set_option maxHeartbeats 4000000 in
set_option maxRecDepth 100000 in
theorem mt_X1_copyPlate (E : zE) (l : Launch) (a_t : Nat) (a_t_kinds : Nat) (a_t_depths : Nat) (a_t_lives : Nat) (a_t_stops : Nat) (a_o1 : Nat) (a_o1_kinds : Nat) (a_o1_depths : Nat) (a_o1_lives : Nat) (a_o1_stops : Nat) (v_t_kinds : Nat → Int32) (v_t_depths : Nat → Int32) (v_t_lives : Nat → Int32) (v_t_stops : Nat → Int32) (v_o1_kinds : Nat → Int32) (v_o1_depths : Nat → Int32) (v_o1_lives : Nat → Int32) (v_o1_stops : Nat → Int32) (p2 : Int32) (u : (Nat → Int32) × (Nat → Int32) × (Nat → Int32) × (Nat → Int32)) (hf : fX1_copyPlate v_t_kinds v_t_depths v_t_lives v_t_stops v_o1_kinds v_o1_depths v_o1_lives v_o1_stops p2 = some u)   : zM E l yX1_copyPlate [.code yX1_copyPlate cX1_copyPlate 4 none] { frames := 0, cells := 0, slots := 0, locals := 0 } [.ref a_t, .ref a_o1, .int p2] [(a_t, .inr (1, [.ref a_t_kinds, .ref a_t_depths, .ref a_t_lives, .ref a_t_stops])), (a_t_kinds, .inl (E.2.1, 108, .inl v_t_kinds)), (a_t_depths, .inl (E.2.1, 108, .inl v_t_depths)), (a_t_lives, .inl (E.2.1, 108, .inl v_t_lives)), (a_t_stops, .inl (E.2.2.1, 108, .inl v_t_stops)), (a_o1, .inr (1, [.ref a_o1_kinds, .ref a_o1_depths, .ref a_o1_lives, .ref a_o1_stops])), (a_o1_kinds, .inl (E.2.1, 108, .inl v_o1_kinds)), (a_o1_depths, .inl (E.2.1, 108, .inl v_o1_depths)), (a_o1_lives, .inl (E.2.1, 108, .inl v_o1_lives)), (a_o1_stops, .inl (E.2.2.1, 108, .inl v_o1_stops))] (none) [(a_t, .inr (1, [.ref a_t_kinds, .ref a_t_depths, .ref a_t_lives, .ref a_t_stops])), (a_t_kinds, .inl (E.2.1, 108, .inl u.1)), (a_t_depths, .inl (E.2.1, 108, .inl u.2.1)), (a_t_lives, .inl (E.2.1, 108, .inl u.2.2.1)), (a_t_stops, .inl (E.2.2.1, 108, .inl u.2.2.2)), (a_o1, .inr (1, [.ref a_o1_kinds, .ref a_o1_depths, .ref a_o1_lives, .ref a_o1_stops])), (a_o1_kinds, .inl (E.2.1, 108, .inl v_o1_kinds)), (a_o1_depths, .inl (E.2.1, 108, .inl v_o1_depths)), (a_o1_lives, .inl (E.2.1, 108, .inl v_o1_lives)), (a_o1_stops, .inl (E.2.2.1, 108, .inl v_o1_stops))] := by
  refine zM_void (cc := cX1_copyPlate) (nL := 4) (by decide) (Nat.le_of_ble_eq_true rfl) ?_
  intro p e R s m args below meth c A Q ls hRf hRl hx hb hml hown hK hA hP hD hS hl ret
  have hT := hK.2
  have hown : s.vm.findClass RX1 = some m.cls := hown
  have hl : lv_has ls 4 [(0, .ref a_t), (1, .ref a_o1), (2, .int p2)] := hl
  have hw1 : ∀ w ∈ u_ws RX1 TX1 4, w.before args s = true := fun w h => hT w (zl_X1 w h) args
  have h := hf
  unfold fX1_copyPlate at h
  refine lv_iload_n (pc := 0) hx hb dX1_copyPlate_0 rfl (lv_at hl 2 rfl) ?_
  refine lv_bipush (pc := 1) (v := (36 : Int32)) hx hb dX1_copyPlate_1 (by decide) ?_
  refine lv_imul (pc := 3) hx hb dX1_copyPlate_3 ?_
  refine lv_istore_n (pc := 4) (lv' := [(3, .int (p2 * (36 : Int32))), (0, .ref a_t), (1, .ref a_o1), (2, .int p2)]) hx hb dX1_copyPlate_4 rfl hl (by decide) rfl (fun ls hl => ?_)
  have J5 : ∀ (n5 : Nat) (x5_3 : Int32) (y5_t_kinds : Nat → Int32) (y5_t_depths : Nat → Int32) (y5_t_lives : Nat → Int32) (y5_t_stops : Nat → Int32) (H : Heap) (locs : List Loc) (ls : Array Slot), fX1_copyPlate_5 v_o1_kinds v_o1_depths v_o1_lives v_o1_stops p2 n5 x5_3 y5_t_kinds y5_t_depths y5_t_lives y5_t_stops = some u → lv_has ls 4 [(0, .ref a_t), (1, .ref a_o1), (2, .int p2), (3, .int x5_3)] → va_P E.1 vwCl [(a_t, .inr (1, [.ref a_t_kinds, .ref a_t_depths, .ref a_t_lives, .ref a_t_stops])), (a_t_kinds, .inl (E.2.1, 108, .inl y5_t_kinds)), (a_t_depths, .inl (E.2.1, 108, .inl y5_t_depths)), (a_t_lives, .inl (E.2.1, 108, .inl y5_t_lives)), (a_t_stops, .inl (E.2.2.1, 108, .inl y5_t_stops)), (a_o1, .inr (1, [.ref a_o1_kinds, .ref a_o1_depths, .ref a_o1_lives, .ref a_o1_stops])), (a_o1_kinds, .inl (E.2.1, 108, .inl v_o1_kinds)), (a_o1_depths, .inl (E.2.1, 108, .inl v_o1_depths)), (a_o1_lives, .inl (E.2.1, 108, .inl v_o1_lives)), (a_o1_stops, .inl (E.2.2.1, 108, .inl v_o1_stops))] H → va_D A [(a_t, .inr (1, [.ref a_t_kinds, .ref a_t_depths, .ref a_t_lives, .ref a_t_stops])), (a_t_kinds, .inl (E.2.1, 108, .inl y5_t_kinds)), (a_t_depths, .inl (E.2.1, 108, .inl y5_t_depths)), (a_t_lives, .inl (E.2.1, 108, .inl y5_t_lives)), (a_t_stops, .inl (E.2.2.1, 108, .inl y5_t_stops)), (a_o1, .inr (1, [.ref a_o1_kinds, .ref a_o1_depths, .ref a_o1_lives, .ref a_o1_stops])), (a_o1_kinds, .inl (E.2.1, 108, .inl v_o1_kinds)), (a_o1_depths, .inl (E.2.1, 108, .inl v_o1_depths)), (a_o1_lives, .inl (E.2.1, 108, .inl v_o1_lives)), (a_o1_stops, .inl (E.2.2.1, 108, .inl v_o1_stops))] → va_S A s.heap H locs → W p l e R s m args below meth c H locs 0 0 Q (F0 m 5 ls []) := by
    intro n5
    induction n5 with
    | zero =>
      intro x5_3 y5_t_kinds y5_t_depths y5_t_lives y5_t_stops H locs ls h hl hP hD hS
      rw [fX1_copyPlate_5] at h
      cases h
    | succ n5 ih5 =>
      intro x5_3 y5_t_kinds y5_t_depths y5_t_lives y5_t_stops H locs ls h hl hP hD hS
      rw [fX1_copyPlate_5] at h
      refine lv_iload_n (pc := 5) hx hb dX1_copyPlate_5 rfl (lv_at hl 3 rfl) ?_
      refine lv_iload_n (pc := 6) hx hb dX1_copyPlate_6 rfl (lv_at hl 2 rfl) ?_
      refine lv_iconst (pc := 7) (v := (1 : Int32)) hx hb dX1_copyPlate_7 (by decide) ?_
      refine lv_iadd (pc := 8) hx hb dX1_copyPlate_8 ?_
      refine lv_bipush (pc := 9) (v := (36 : Int32)) hx hb dX1_copyPlate_9 (by decide) ?_
      refine lv_imul (pc := 11) hx hb dX1_copyPlate_11 ?_
      refine lv_icmp_ge (pc := 12) (tgt := 69) hx hb dX1_copyPlate_12 (by decide) (fun c1 => ?_) (fun c1 => ?_)
      · have h := r_pos h c1
        obtain rfl := Option.some.inj h
        exact ret _ _ 69 _ dX1_copyPlate_69 hP hD hS
      · have h := r_neg h c1
        refine lv_aload_n (pc := 15) hx hb dX1_copyPlate_15 rfl (lv_at hl 0 rfl) ?_
        refine va_get (pc := 16) (ci := 1) (C := RX1) (T := TX1) (N := 4) hx hb hw1 (fun _ h9 => h9) hown hK.1 hP 0 rfl rfl 0 (by decide) (hT _ zw22 _) (fun _ h9 => h9) rfl dX1_copyPlate_16 ?_
        refine lv_iload_n (pc := 19) hx hb dX1_copyPlate_19 rfl (lv_at hl 3 rfl) ?_
        refine lv_aload_n (pc := 20) hx hb dX1_copyPlate_20 rfl (lv_at hl 1 rfl) ?_
        refine va_get (pc := 21) (ci := 1) (C := RX1) (T := TX1) (N := 4) hx hb hw1 (fun _ h9 => h9) hown hK.1 hP 5 rfl rfl 0 (by decide) (hT _ zw22 _) (fun _ h9 => h9) rfl dX1_copyPlate_21 ?_
        refine lv_iload_n (pc := 24) hx hb dX1_copyPlate_24 rfl (lv_at hl 3 rfl) ?_
        obtain ⟨hb2, h⟩ := r_in h
        refine va_iald (pc := 25) hx hb hK.1 hP 6 0 rfl rfl hb2 dX1_copyPlate_25 ?_
        refine va_iast (pc := 26) hx hb hK.1 hP hD hS 1 0 rfl rfl hb2 dX1_copyPlate_26 (fun H locs hP hD hS => ?_)
        have hP : va_P E.1 vwCl [(a_t, .inr (1, [.ref a_t_kinds, .ref a_t_depths, .ref a_t_lives, .ref a_t_stops])), (a_t_kinds, .inl (E.2.1, 108, .inl (upd y5_t_kinds x5_3.toNatClampNeg (v_o1_kinds x5_3.toNatClampNeg)))), (a_t_depths, .inl (E.2.1, 108, .inl y5_t_depths)), (a_t_lives, .inl (E.2.1, 108, .inl y5_t_lives)), (a_t_stops, .inl (E.2.2.1, 108, .inl y5_t_stops)), (a_o1, .inr (1, [.ref a_o1_kinds, .ref a_o1_depths, .ref a_o1_lives, .ref a_o1_stops])), (a_o1_kinds, .inl (E.2.1, 108, .inl v_o1_kinds)), (a_o1_depths, .inl (E.2.1, 108, .inl v_o1_depths)), (a_o1_lives, .inl (E.2.1, 108, .inl v_o1_lives)), (a_o1_stops, .inl (E.2.2.1, 108, .inl v_o1_stops))] H := hP
        have hD : va_D A [(a_t, .inr (1, [.ref a_t_kinds, .ref a_t_depths, .ref a_t_lives, .ref a_t_stops])), (a_t_kinds, .inl (E.2.1, 108, .inl (upd y5_t_kinds x5_3.toNatClampNeg (v_o1_kinds x5_3.toNatClampNeg)))), (a_t_depths, .inl (E.2.1, 108, .inl y5_t_depths)), (a_t_lives, .inl (E.2.1, 108, .inl y5_t_lives)), (a_t_stops, .inl (E.2.2.1, 108, .inl y5_t_stops)), (a_o1, .inr (1, [.ref a_o1_kinds, .ref a_o1_depths, .ref a_o1_lives, .ref a_o1_stops])), (a_o1_kinds, .inl (E.2.1, 108, .inl v_o1_kinds)), (a_o1_depths, .inl (E.2.1, 108, .inl v_o1_depths)), (a_o1_lives, .inl (E.2.1, 108, .inl v_o1_lives)), (a_o1_stops, .inl (E.2.2.1, 108, .inl v_o1_stops))] := hD
        refine lv_aload_n (pc := 27) hx hb dX1_copyPlate_27 rfl (lv_at hl 0 rfl) ?_
        refine va_get (pc := 28) (ci := 1) (C := RX1) (T := TX1) (N := 4) hx hb hw1 (fun _ h9 => h9) hown hK.1 hP 0 rfl rfl 1 (by decide) (hT _ zw24 _) (fun _ h9 => h9) rfl dX1_copyPlate_28 ?_
        refine lv_iload_n (pc := 31) hx hb dX1_copyPlate_31 rfl (lv_at hl 3 rfl) ?_
        refine lv_aload_n (pc := 32) hx hb dX1_copyPlate_32 rfl (lv_at hl 1 rfl) ?_
        refine va_get (pc := 33) (ci := 1) (C := RX1) (T := TX1) (N := 4) hx hb hw1 (fun _ h9 => h9) hown hK.1 hP 5 rfl rfl 1 (by decide) (hT _ zw24 _) (fun _ h9 => h9) rfl dX1_copyPlate_33 ?_
        refine lv_iload_n (pc := 36) hx hb dX1_copyPlate_36 rfl (lv_at hl 3 rfl) ?_
        refine va_iald (pc := 37) hx hb hK.1 hP 7 0 rfl rfl hb2 dX1_copyPlate_37 ?_
        refine va_iast (pc := 38) hx hb hK.1 hP hD hS 2 0 rfl rfl hb2 dX1_copyPlate_38 (fun H locs hP hD hS => ?_)
        have hP : va_P E.1 vwCl [(a_t, .inr (1, [.ref a_t_kinds, .ref a_t_depths, .ref a_t_lives, .ref a_t_stops])), (a_t_kinds, .inl (E.2.1, 108, .inl (upd y5_t_kinds x5_3.toNatClampNeg (v_o1_kinds x5_3.toNatClampNeg)))), (a_t_depths, .inl (E.2.1, 108, .inl (upd y5_t_depths x5_3.toNatClampNeg (v_o1_depths x5_3.toNatClampNeg)))), (a_t_lives, .inl (E.2.1, 108, .inl y5_t_lives)), (a_t_stops, .inl (E.2.2.1, 108, .inl y5_t_stops)), (a_o1, .inr (1, [.ref a_o1_kinds, .ref a_o1_depths, .ref a_o1_lives, .ref a_o1_stops])), (a_o1_kinds, .inl (E.2.1, 108, .inl v_o1_kinds)), (a_o1_depths, .inl (E.2.1, 108, .inl v_o1_depths)), (a_o1_lives, .inl (E.2.1, 108, .inl v_o1_lives)), (a_o1_stops, .inl (E.2.2.1, 108, .inl v_o1_stops))] H := hP
        have hD : va_D A [(a_t, .inr (1, [.ref a_t_kinds, .ref a_t_depths, .ref a_t_lives, .ref a_t_stops])), (a_t_kinds, .inl (E.2.1, 108, .inl (upd y5_t_kinds x5_3.toNatClampNeg (v_o1_kinds x5_3.toNatClampNeg)))), (a_t_depths, .inl (E.2.1, 108, .inl (upd y5_t_depths x5_3.toNatClampNeg (v_o1_depths x5_3.toNatClampNeg)))), (a_t_lives, .inl (E.2.1, 108, .inl y5_t_lives)), (a_t_stops, .inl (E.2.2.1, 108, .inl y5_t_stops)), (a_o1, .inr (1, [.ref a_o1_kinds, .ref a_o1_depths, .ref a_o1_lives, .ref a_o1_stops])), (a_o1_kinds, .inl (E.2.1, 108, .inl v_o1_kinds)), (a_o1_depths, .inl (E.2.1, 108, .inl v_o1_depths)), (a_o1_lives, .inl (E.2.1, 108, .inl v_o1_lives)), (a_o1_stops, .inl (E.2.2.1, 108, .inl v_o1_stops))] := hD
        refine lv_aload_n (pc := 39) hx hb dX1_copyPlate_39 rfl (lv_at hl 0 rfl) ?_
        refine va_get (pc := 40) (ci := 1) (C := RX1) (T := TX1) (N := 4) hx hb hw1 (fun _ h9 => h9) hown hK.1 hP 0 rfl rfl 2 (by decide) (hT _ zw23 _) (fun _ h9 => h9) rfl dX1_copyPlate_40 ?_
        refine lv_iload_n (pc := 43) hx hb dX1_copyPlate_43 rfl (lv_at hl 3 rfl) ?_
        refine lv_aload_n (pc := 44) hx hb dX1_copyPlate_44 rfl (lv_at hl 1 rfl) ?_
        refine va_get (pc := 45) (ci := 1) (C := RX1) (T := TX1) (N := 4) hx hb hw1 (fun _ h9 => h9) hown hK.1 hP 5 rfl rfl 2 (by decide) (hT _ zw23 _) (fun _ h9 => h9) rfl dX1_copyPlate_45 ?_
        refine lv_iload_n (pc := 48) hx hb dX1_copyPlate_48 rfl (lv_at hl 3 rfl) ?_
        refine va_iald (pc := 49) hx hb hK.1 hP 8 0 rfl rfl hb2 dX1_copyPlate_49 ?_
        refine va_iast (pc := 50) hx hb hK.1 hP hD hS 3 0 rfl rfl hb2 dX1_copyPlate_50 (fun H locs hP hD hS => ?_)
        have hP : va_P E.1 vwCl [(a_t, .inr (1, [.ref a_t_kinds, .ref a_t_depths, .ref a_t_lives, .ref a_t_stops])), (a_t_kinds, .inl (E.2.1, 108, .inl (upd y5_t_kinds x5_3.toNatClampNeg (v_o1_kinds x5_3.toNatClampNeg)))), (a_t_depths, .inl (E.2.1, 108, .inl (upd y5_t_depths x5_3.toNatClampNeg (v_o1_depths x5_3.toNatClampNeg)))), (a_t_lives, .inl (E.2.1, 108, .inl (upd y5_t_lives x5_3.toNatClampNeg (v_o1_lives x5_3.toNatClampNeg)))), (a_t_stops, .inl (E.2.2.1, 108, .inl y5_t_stops)), (a_o1, .inr (1, [.ref a_o1_kinds, .ref a_o1_depths, .ref a_o1_lives, .ref a_o1_stops])), (a_o1_kinds, .inl (E.2.1, 108, .inl v_o1_kinds)), (a_o1_depths, .inl (E.2.1, 108, .inl v_o1_depths)), (a_o1_lives, .inl (E.2.1, 108, .inl v_o1_lives)), (a_o1_stops, .inl (E.2.2.1, 108, .inl v_o1_stops))] H := hP
        have hD : va_D A [(a_t, .inr (1, [.ref a_t_kinds, .ref a_t_depths, .ref a_t_lives, .ref a_t_stops])), (a_t_kinds, .inl (E.2.1, 108, .inl (upd y5_t_kinds x5_3.toNatClampNeg (v_o1_kinds x5_3.toNatClampNeg)))), (a_t_depths, .inl (E.2.1, 108, .inl (upd y5_t_depths x5_3.toNatClampNeg (v_o1_depths x5_3.toNatClampNeg)))), (a_t_lives, .inl (E.2.1, 108, .inl (upd y5_t_lives x5_3.toNatClampNeg (v_o1_lives x5_3.toNatClampNeg)))), (a_t_stops, .inl (E.2.2.1, 108, .inl y5_t_stops)), (a_o1, .inr (1, [.ref a_o1_kinds, .ref a_o1_depths, .ref a_o1_lives, .ref a_o1_stops])), (a_o1_kinds, .inl (E.2.1, 108, .inl v_o1_kinds)), (a_o1_depths, .inl (E.2.1, 108, .inl v_o1_depths)), (a_o1_lives, .inl (E.2.1, 108, .inl v_o1_lives)), (a_o1_stops, .inl (E.2.2.1, 108, .inl v_o1_stops))] := hD
        refine lv_aload_n (pc := 51) hx hb dX1_copyPlate_51 rfl (lv_at hl 0 rfl) ?_
        refine va_get (pc := 52) (ci := 1) (C := RX1) (T := TX1) (N := 4) hx hb hw1 (fun _ h9 => h9) hown hK.1 hP 0 rfl rfl 3 (by decide) (hT _ zw26 _) (fun _ h9 => h9) rfl dX1_copyPlate_52 ?_
        refine lv_iload_n (pc := 55) hx hb dX1_copyPlate_55 rfl (lv_at hl 3 rfl) ?_
        refine lv_aload_n (pc := 56) hx hb dX1_copyPlate_56 rfl (lv_at hl 1 rfl) ?_
        refine va_get (pc := 57) (ci := 1) (C := RX1) (T := TX1) (N := 4) hx hb hw1 (fun _ h9 => h9) hown hK.1 hP 5 rfl rfl 3 (by decide) (hT _ zw26 _) (fun _ h9 => h9) rfl dX1_copyPlate_57 ?_
        refine lv_iload_n (pc := 60) hx hb dX1_copyPlate_60 rfl (lv_at hl 3 rfl) ?_
        refine va_zald (pc := 61) hx hb hK.1 hP 9 1 rfl rfl hb2 dX1_copyPlate_61 ?_
        refine va_zast (pc := 62) hx hb hK.1 hP hD hS 4 1 rfl rfl hb2 dX1_copyPlate_62 (fun H locs hP hD hS => ?_)
        have hP : va_P E.1 vwCl [(a_t, .inr (1, [.ref a_t_kinds, .ref a_t_depths, .ref a_t_lives, .ref a_t_stops])), (a_t_kinds, .inl (E.2.1, 108, .inl (upd y5_t_kinds x5_3.toNatClampNeg (v_o1_kinds x5_3.toNatClampNeg)))), (a_t_depths, .inl (E.2.1, 108, .inl (upd y5_t_depths x5_3.toNatClampNeg (v_o1_depths x5_3.toNatClampNeg)))), (a_t_lives, .inl (E.2.1, 108, .inl (upd y5_t_lives x5_3.toNatClampNeg (v_o1_lives x5_3.toNatClampNeg)))), (a_t_stops, .inl (E.2.2.1, 108, .inl (upd y5_t_stops x5_3.toNatClampNeg ((v_o1_stops x5_3.toNatClampNeg) &&& (1 : Int32))))), (a_o1, .inr (1, [.ref a_o1_kinds, .ref a_o1_depths, .ref a_o1_lives, .ref a_o1_stops])), (a_o1_kinds, .inl (E.2.1, 108, .inl v_o1_kinds)), (a_o1_depths, .inl (E.2.1, 108, .inl v_o1_depths)), (a_o1_lives, .inl (E.2.1, 108, .inl v_o1_lives)), (a_o1_stops, .inl (E.2.2.1, 108, .inl v_o1_stops))] H := hP
        have hD : va_D A [(a_t, .inr (1, [.ref a_t_kinds, .ref a_t_depths, .ref a_t_lives, .ref a_t_stops])), (a_t_kinds, .inl (E.2.1, 108, .inl (upd y5_t_kinds x5_3.toNatClampNeg (v_o1_kinds x5_3.toNatClampNeg)))), (a_t_depths, .inl (E.2.1, 108, .inl (upd y5_t_depths x5_3.toNatClampNeg (v_o1_depths x5_3.toNatClampNeg)))), (a_t_lives, .inl (E.2.1, 108, .inl (upd y5_t_lives x5_3.toNatClampNeg (v_o1_lives x5_3.toNatClampNeg)))), (a_t_stops, .inl (E.2.2.1, 108, .inl (upd y5_t_stops x5_3.toNatClampNeg ((v_o1_stops x5_3.toNatClampNeg) &&& (1 : Int32))))), (a_o1, .inr (1, [.ref a_o1_kinds, .ref a_o1_depths, .ref a_o1_lives, .ref a_o1_stops])), (a_o1_kinds, .inl (E.2.1, 108, .inl v_o1_kinds)), (a_o1_depths, .inl (E.2.1, 108, .inl v_o1_depths)), (a_o1_lives, .inl (E.2.1, 108, .inl v_o1_lives)), (a_o1_stops, .inl (E.2.2.1, 108, .inl v_o1_stops))] := hD
        refine lv_iinc (pc := 63) (v := (x5_3 + (1 : Int32))) (lv' := [(3, .int (x5_3 + (1 : Int32))), (0, .ref a_t), (1, .ref a_o1), (2, .int p2)]) hx hb dX1_copyPlate_63 hl (k := 3) rfl rfl (by decide) rfl (fun ls hl => ?_)
        refine lv_goto (pc := 66) (tgt := 5) hx hb dX1_copyPlate_66 (by decide) ?_
        exact ih5 (x5_3 + (1 : Int32)) (upd y5_t_kinds x5_3.toNatClampNeg (v_o1_kinds x5_3.toNatClampNeg)) (upd y5_t_depths x5_3.toNatClampNeg (v_o1_depths x5_3.toNatClampNeg)) (upd y5_t_lives x5_3.toNatClampNeg (v_o1_lives x5_3.toNatClampNeg)) (upd y5_t_stops x5_3.toNatClampNeg ((v_o1_stops x5_3.toNatClampNeg) &&& (1 : Int32))) _ _ _ h (lv_sub hl [1, 2, 3, 0] rfl) hP hD hS
  exact J5 _ (p2 * (36 : Int32)) v_t_kinds v_t_depths v_t_lives v_t_stops _ _ _ h (lv_sub hl [1, 2, 3, 0] rfl) hP hD hS
def fX1_stoppedOfAll_22 (x4_2 : Int32) (k4 : Int32 → Int32 → Option (Int32)) (x22_1 : Int32) : Option (Int32) := k4 x22_1 (x4_2 + (1 : Int32))
def fX1_stoppedOfAll_4 (v_t_stops : Nat → Int32) : Nat → Int32 → Int32 → Option (Int32)
  | 0, _, _ => none
  | n4 + 1, x4_1, x4_2 => (if (108 : Int32) ≤ x4_2 then some x4_1 else (if inb x4_2 108 = true then (if (v_t_stops x4_2.toNatClampNeg) = 0 then fX1_stoppedOfAll_22 x4_2 (fX1_stoppedOfAll_4 v_t_stops n4) x4_1 else fX1_stoppedOfAll_22 x4_2 (fX1_stoppedOfAll_4 v_t_stops n4) (x4_1 + (1 : Int32))) else none))
def fX1_stoppedOfAll (v_t_stops : Nat → Int32) : Option (Int32) := fX1_stoppedOfAll_4 v_t_stops 100000 (0 : Int32) (0 : Int32)
set_option maxHeartbeats 4000000 in
set_option maxRecDepth 100000 in
theorem mt_X1_stoppedOfAll (E : zE) (l : Launch) (a_t : Nat) (a_t_kinds : Nat) (a_t_depths : Nat) (a_t_lives : Nat) (a_t_stops : Nat) (v_t_stops : Nat → Int32) (u : Int32) (hf : fX1_stoppedOfAll v_t_stops = some u)   : zM E l yX1_stoppedOfAll [.code yX1_stoppedOfAll cX1_stoppedOfAll 3 (some .int)] { frames := 0, cells := 0, slots := 0, locals := 0 } [.ref a_t] [(a_t, .inr (1, [.ref a_t_kinds, .ref a_t_depths, .ref a_t_lives, .ref a_t_stops])), (a_t_stops, .inl (E.2.2.1, 108, .inl v_t_stops))] (some u) [(a_t, .inr (1, [.ref a_t_kinds, .ref a_t_depths, .ref a_t_lives, .ref a_t_stops])), (a_t_stops, .inl (E.2.2.1, 108, .inl v_t_stops))] := by
  refine zM_int (ty := .int) (cc := cX1_stoppedOfAll) (nL := 3) (by decide) (Nat.le_of_ble_eq_true rfl) ?_
  intro p e R s m args below meth c A Q ls hRf hRl hx hb hml hown hK hA hP hD hS hl ret
  have hT := hK.2
  have hown : s.vm.findClass RX1 = some m.cls := hown
  have hl : lv_has ls 3 [(0, .ref a_t)] := hl
  have hw1 : ∀ w ∈ u_ws RX1 TX1 4, w.before args s = true := fun w h => hT w (zl_X1 w h) args
  have h := hf
  unfold fX1_stoppedOfAll at h
  refine lv_iconst (pc := 0) (v := (0 : Int32)) hx hb dX1_stoppedOfAll_0 (by decide) ?_
  refine lv_istore_n (pc := 1) (lv' := [(1, .int (0 : Int32)), (0, .ref a_t)]) hx hb dX1_stoppedOfAll_1 rfl hl (by decide) rfl (fun ls hl => ?_)
  refine lv_iconst (pc := 2) (v := (0 : Int32)) hx hb dX1_stoppedOfAll_2 (by decide) ?_
  refine lv_istore_n (pc := 3) (lv' := [(2, .int (0 : Int32)), (1, .int (0 : Int32)), (0, .ref a_t)]) hx hb dX1_stoppedOfAll_3 rfl hl (by decide) rfl (fun ls hl => ?_)
  have J4 : ∀ (n4 : Nat) (x4_1 : Int32) (x4_2 : Int32) (H : Heap) (locs : List Loc) (ls : Array Slot), fX1_stoppedOfAll_4 v_t_stops n4 x4_1 x4_2 = some u → lv_has ls 3 [(0, .ref a_t), (1, .int x4_1), (2, .int x4_2)] → va_P E.1 vwCl [(a_t, .inr (1, [.ref a_t_kinds, .ref a_t_depths, .ref a_t_lives, .ref a_t_stops])), (a_t_stops, .inl (E.2.2.1, 108, .inl v_t_stops))] H → va_D A [(a_t, .inr (1, [.ref a_t_kinds, .ref a_t_depths, .ref a_t_lives, .ref a_t_stops])), (a_t_stops, .inl (E.2.2.1, 108, .inl v_t_stops))] → va_S A s.heap H locs → W p l e R s m args below meth c H locs 0 0 Q (F0 m 4 ls []) := by
    intro n4
    induction n4 with
    | zero =>
      intro x4_1 x4_2 H locs ls h hl hP hD hS
      rw [fX1_stoppedOfAll_4] at h
      cases h
    | succ n4 ih4 =>
      intro x4_1 x4_2 H locs ls h hl hP hD hS
      rw [fX1_stoppedOfAll_4] at h
      refine lv_iload_n (pc := 4) hx hb dX1_stoppedOfAll_4 rfl (lv_at hl 2 rfl) ?_
      refine lv_bipush (pc := 5) (v := (108 : Int32)) hx hb dX1_stoppedOfAll_5 (by decide) ?_
      refine lv_icmp_ge (pc := 7) (tgt := 28) hx hb dX1_stoppedOfAll_7 (by decide) (fun c1 => ?_) (fun c1 => ?_)
      · have h := r_pos h c1
        refine lv_iload_n (pc := 28) hx hb dX1_stoppedOfAll_28 rfl (lv_at hl 1 rfl) ?_
        obtain rfl := Option.some.inj h
        exact ret _ _ 29 _ rfl dX1_stoppedOfAll_29 hP hD hS
      · have h := r_neg h c1
        refine lv_aload_n (pc := 10) hx hb dX1_stoppedOfAll_10 rfl (lv_at hl 0 rfl) ?_
        refine va_get (pc := 11) (ci := 1) (C := RX1) (T := TX1) (N := 4) hx hb hw1 (fun _ h9 => h9) hown hK.1 hP 0 rfl rfl 3 (by decide) (hT _ zw26 _) (fun _ h9 => h9) rfl dX1_stoppedOfAll_11 ?_
        refine lv_iload_n (pc := 14) hx hb dX1_stoppedOfAll_14 rfl (lv_at hl 2 rfl) ?_
        obtain ⟨hb2, h⟩ := r_in h
        refine va_zald (pc := 15) hx hb hK.1 hP 1 1 rfl rfl hb2 dX1_stoppedOfAll_15 ?_
        have J22 : ∀ (x22_1 : Int32) (H : Heap) (locs : List Loc) (ls : Array Slot), fX1_stoppedOfAll_22 x4_2 (fX1_stoppedOfAll_4 v_t_stops n4) x22_1 = some u → lv_has ls 3 [(0, .ref a_t), (1, .int x22_1), (2, .int x4_2)] → va_P E.1 vwCl [(a_t, .inr (1, [.ref a_t_kinds, .ref a_t_depths, .ref a_t_lives, .ref a_t_stops])), (a_t_stops, .inl (E.2.2.1, 108, .inl v_t_stops))] H → va_D A [(a_t, .inr (1, [.ref a_t_kinds, .ref a_t_depths, .ref a_t_lives, .ref a_t_stops])), (a_t_stops, .inl (E.2.2.1, 108, .inl v_t_stops))] → va_S A s.heap H locs → W p l e R s m args below meth c H locs 0 0 Q (F0 m 22 ls []) := by
          intro x22_1 H locs ls h hl hP hD hS
          unfold fX1_stoppedOfAll_22 at h
          refine lv_iinc (pc := 22) (v := (x4_2 + (1 : Int32))) (lv' := [(2, .int (x4_2 + (1 : Int32))), (0, .ref a_t), (1, .int x22_1)]) hx hb dX1_stoppedOfAll_22 hl (k := 2) rfl rfl (by decide) rfl (fun ls hl => ?_)
          refine lv_goto (pc := 25) (tgt := 4) hx hb dX1_stoppedOfAll_25 (by decide) ?_
          exact ih4 x22_1 (x4_2 + (1 : Int32)) _ _ _ h (lv_sub hl [1, 2, 0] rfl) hP hD hS
        refine lv_if_eq (pc := 16) (tgt := 22) hx hb dX1_stoppedOfAll_16 (by decide) (fun c3 => ?_) (fun c3 => ?_)
        · have h := r_pos h c3
          exact J22 x4_1 _ _ _ h hl hP hD hS
        · have h := r_neg h c3
          refine lv_iinc (pc := 19) (v := (x4_1 + (1 : Int32))) (lv' := [(1, .int (x4_1 + (1 : Int32))), (0, .ref a_t), (2, .int x4_2)]) hx hb dX1_stoppedOfAll_19 hl (k := 1) rfl rfl (by decide) rfl (fun ls hl => ?_)
          exact J22 (x4_1 + (1 : Int32)) _ _ _ h (lv_sub hl [1, 0, 2] rfl) hP hD hS
  exact J4 _ (0 : Int32) (0 : Int32) _ _ _ h (lv_sub hl [2, 1, 0] rfl) hP hD hS
