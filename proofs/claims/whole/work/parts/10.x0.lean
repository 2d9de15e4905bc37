def fX0_plateOfAll (v_t_spots : Nat → Int32) : Option (Int32) := (if inb (0 : Int32) 8 = true then some ((v_t_spots (0 : Int32).toNatClampNeg) / (36 : Int32)) else none)
set_option maxHeartbeats 4000000 in
set_option maxRecDepth 100000 in
theorem mt_X0_plateOfAll (E : zE) (l : Launch) (a_t : Nat) (a_t_spots : Nat) (a_t_lows : Nat) (a_t_highs : Nat) (v_t_size : Int32) (v_t_spots : Nat → Int32) (u : Int32) (hf : fX0_plateOfAll v_t_spots = some u)   : zM E l yX0_plateOfAll [.code yX0_plateOfAll cX0_plateOfAll 1 (some .int)] { frames := 0, cells := 0, slots := 0, locals := 0 } [.ref a_t] [(a_t, .inr (0, [.ref a_t_spots, .ref a_t_lows, .ref a_t_highs, .int v_t_size])), (a_t_spots, .inl (E.2.1, 8, .inl v_t_spots))] (some u) [(a_t, .inr (0, [.ref a_t_spots, .ref a_t_lows, .ref a_t_highs, .int v_t_size])), (a_t_spots, .inl (E.2.1, 8, .inl v_t_spots))] := by
  refine zM_int (ty := .int) (cc := cX0_plateOfAll) (nL := 1) (by decide) (Nat.le_of_ble_eq_true rfl) ?_
  intro p e R s m args below meth c A Q ls hRf hRl hx hb hml hown hK hA hP hD hS hl ret
  have hT := hK.2
  have hown : s.vm.findClass RX0 = some m.cls := hown
  have hl : lv_has ls 1 [(0, .ref a_t)] := hl
  have hw0 : ∀ w ∈ u_ws RX0 TX0 4, w.before args s = true := fun w h => hT w (zl_X0 w h) args
  have h := hf
  unfold fX0_plateOfAll at h
  refine lv_aload_n (pc := 0) hx hb dX0_plateOfAll_0 rfl (lv_at hl 0 rfl) ?_
  refine va_get (pc := 1) (ci := 0) (C := RX0) (T := TX0) (N := 4) hx hb hw0 (fun _ h9 => h9) hown hK.1 hP 0 rfl rfl 0 (by decide) (hT _ zw0 _) (fun _ h9 => h9) rfl dX0_plateOfAll_1 ?_
  refine lv_iconst (pc := 4) (v := (0 : Int32)) hx hb dX0_plateOfAll_4 (by decide) ?_
  obtain ⟨hb1, h⟩ := r_in h
  refine va_iald (pc := 5) hx hb hK.1 hP 1 0 rfl rfl hb1 dX0_plateOfAll_5 ?_
  refine lv_bipush (pc := 6) (v := (36 : Int32)) hx hb dX0_plateOfAll_6 (by decide) ?_
  refine lv_idiv (pc := 8) hx hb dX0_plateOfAll_8 (by decide) ?_
  obtain rfl := Option.some.inj h
  exact ret _ _ 9 _ rfl dX0_plateOfAll_9 hP hD hS
def fX0_addGuard (v_t_spots : Nat → Int32) (v_t_lows : Nat → Int32) (v_t_highs : Nat → Int32) (v_t_size : Int32) (p1 : Int32) (p2 : Int32) (p3 : Int32) : Option ((Nat → Int32) × (Nat → Int32) × (Nat → Int32) × Int32) := (if inb v_t_size 8 = true then some ((upd v_t_spots v_t_size.toNatClampNeg p1), (upd v_t_lows v_t_size.toNatClampNeg p2), (upd v_t_highs v_t_size.toNatClampNeg p3), (v_t_size + (1 : Int32))) else none)
set_option maxHeartbeats 4000000 in
set_option maxRecDepth 100000 in
theorem mt_X0_addGuard (E : zE) (l : Launch) (a_t : Nat) (a_t_spots : Nat) (a_t_lows : Nat) (a_t_highs : Nat) (v_t_size : Int32) (v_t_spots : Nat → Int32) (v_t_lows : Nat → Int32) (v_t_highs : Nat → Int32) (p1 : Int32) (p2 : Int32) (p3 : Int32) (u : (Nat → Int32) × (Nat → Int32) × (Nat → Int32) × Int32) (hf : fX0_addGuard v_t_spots v_t_lows v_t_highs v_t_size p1 p2 p3 = some u)   : zM E l yX0_addGuard [.code yX0_addGuard cX0_addGuard 4 none] { frames := 0, cells := 0, slots := 0, locals := 0 } [.ref a_t, .int p1, .int p2, .int p3] [(a_t, .inr (0, [.ref a_t_spots, .ref a_t_lows, .ref a_t_highs, .int v_t_size])), (a_t_spots, .inl (E.2.1, 8, .inl v_t_spots)), (a_t_lows, .inl (E.2.1, 8, .inl v_t_lows)), (a_t_highs, .inl (E.2.1, 8, .inl v_t_highs))] (none) [(a_t, .inr (0, [.ref a_t_spots, .ref a_t_lows, .ref a_t_highs, .int u.2.2.2])), (a_t_spots, .inl (E.2.1, 8, .inl u.1)), (a_t_lows, .inl (E.2.1, 8, .inl u.2.1)), (a_t_highs, .inl (E.2.1, 8, .inl u.2.2.1))] := by
  refine zM_void (cc := cX0_addGuard) (nL := 4) (by decide) (Nat.le_of_ble_eq_true rfl) ?_
  intro p e R s m args below meth c A Q ls hRf hRl hx hb hml hown hK hA hP hD hS hl ret
  have hT := hK.2
  have hown : s.vm.findClass RX0 = some m.cls := hown
  have hl : lv_has ls 4 [(0, .ref a_t), (1, .int p1), (2, .int p2), (3, .int p3)] := hl
  have hw0 : ∀ w ∈ u_ws RX0 TX0 4, w.before args s = true := fun w h => hT w (zl_X0 w h) args
  have h := hf
  unfold fX0_addGuard at h
  refine lv_aload_n (pc := 0) hx hb dX0_addGuard_0 rfl (lv_at hl 0 rfl) ?_
  refine va_get (pc := 1) (ci := 0) (C := RX0) (T := TX0) (N := 4) hx hb hw0 (fun _ h9 => h9) hown hK.1 hP 0 rfl rfl 0 (by decide) (hT _ zw0 _) (fun _ h9 => h9) rfl dX0_addGuard_1 ?_
  refine lv_aload_n (pc := 4) hx hb dX0_addGuard_4 rfl (lv_at hl 0 rfl) ?_
  refine va_get (pc := 5) (ci := 0) (C := RX0) (T := TX0) (N := 4) hx hb hw0 (fun _ h9 => h9) hown hK.1 hP 0 rfl rfl 3 (by decide) (hT _ zw1 _) (fun _ h9 => h9) rfl dX0_addGuard_5 ?_
  refine lv_iload_n (pc := 8) hx hb dX0_addGuard_8 rfl (lv_at hl 1 rfl) ?_
  obtain ⟨hb1, h⟩ := r_in h
  refine va_iast (pc := 9) hx hb hK.1 hP hD hS 1 0 rfl rfl hb1 dX0_addGuard_9 (fun H locs hP hD hS => ?_)
  have hP : va_P E.1 vwCl [(a_t, .inr (0, [.ref a_t_spots, .ref a_t_lows, .ref a_t_highs, .int v_t_size])), (a_t_spots, .inl (E.2.1, 8, .inl (upd v_t_spots v_t_size.toNatClampNeg p1))), (a_t_lows, .inl (E.2.1, 8, .inl v_t_lows)), (a_t_highs, .inl (E.2.1, 8, .inl v_t_highs))] H := hP
  have hD : va_D A [(a_t, .inr (0, [.ref a_t_spots, .ref a_t_lows, .ref a_t_highs, .int v_t_size])), (a_t_spots, .inl (E.2.1, 8, .inl (upd v_t_spots v_t_size.toNatClampNeg p1))), (a_t_lows, .inl (E.2.1, 8, .inl v_t_lows)), (a_t_highs, .inl (E.2.1, 8, .inl v_t_highs))] := hD
  refine lv_aload_n (pc := 10) hx hb dX0_addGuard_10 rfl (lv_at hl 0 rfl) ?_
  refine va_get (pc := 11) (ci := 0) (C := RX0) (T := TX0) (N := 4) hx hb hw0 (fun _ h9 => h9) hown hK.1 hP 0 rfl rfl 1 (by decide) (hT _ zw2 _) (fun _ h9 => h9) rfl dX0_addGuard_11 ?_
  refine lv_aload_n (pc := 14) hx hb dX0_addGuard_14 rfl (lv_at hl 0 rfl) ?_
  refine va_get (pc := 15) (ci := 0) (C := RX0) (T := TX0) (N := 4) hx hb hw0 (fun _ h9 => h9) hown hK.1 hP 0 rfl rfl 3 (by decide) (hT _ zw1 _) (fun _ h9 => h9) rfl dX0_addGuard_15 ?_
  refine lv_iload_n (pc := 18) hx hb dX0_addGuard_18 rfl (lv_at hl 2 rfl) ?_
  refine va_iast (pc := 19) hx hb hK.1 hP hD hS 2 0 rfl rfl hb1 dX0_addGuard_19 (fun H locs hP hD hS => ?_)
  have hP : va_P E.1 vwCl [(a_t, .inr (0, [.ref a_t_spots, .ref a_t_lows, .ref a_t_highs, .int v_t_size])), (a_t_spots, .inl (E.2.1, 8, .inl (upd v_t_spots v_t_size.toNatClampNeg p1))), (a_t_lows, .inl (E.2.1, 8, .inl (upd v_t_lows v_t_size.toNatClampNeg p2))), (a_t_highs, .inl (E.2.1, 8, .inl v_t_highs))] H := hP
  have hD : va_D A [(a_t, .inr (0, [.ref a_t_spots, .ref a_t_lows, .ref a_t_highs, .int v_t_size])), (a_t_spots, .inl (E.2.1, 8, .inl (upd v_t_spots v_t_size.toNatClampNeg p1))), (a_t_lows, .inl (E.2.1, 8, .inl (upd v_t_lows v_t_size.toNatClampNeg p2))), (a_t_highs, .inl (E.2.1, 8, .inl v_t_highs))] := hD
  refine lv_aload_n (pc := 20) hx hb dX0_addGuard_20 rfl (lv_at hl 0 rfl) ?_
  refine va_get (pc := 21) (ci := 0) (C := RX0) (T := TX0) (N := 4) hx hb hw0 (fun _ h9 => h9) hown hK.1 hP 0 rfl rfl 2 (by decide) (hT _ zw3 _) (fun _ h9 => h9) rfl dX0_addGuard_21 ?_
  refine lv_aload_n (pc := 24) hx hb dX0_addGuard_24 rfl (lv_at hl 0 rfl) ?_
  refine va_get (pc := 25) (ci := 0) (C := RX0) (T := TX0) (N := 4) hx hb hw0 (fun _ h9 => h9) hown hK.1 hP 0 rfl rfl 3 (by decide) (hT _ zw1 _) (fun _ h9 => h9) rfl dX0_addGuard_25 ?_
  refine lv_iload_n (pc := 28) hx hb dX0_addGuard_28 rfl (lv_at hl 3 rfl) ?_
  refine va_iast (pc := 29) hx hb hK.1 hP hD hS 3 0 rfl rfl hb1 dX0_addGuard_29 (fun H locs hP hD hS => ?_)
  have hP : va_P E.1 vwCl [(a_t, .inr (0, [.ref a_t_spots, .ref a_t_lows, .ref a_t_highs, .int v_t_size])), (a_t_spots, .inl (E.2.1, 8, .inl (upd v_t_spots v_t_size.toNatClampNeg p1))), (a_t_lows, .inl (E.2.1, 8, .inl (upd v_t_lows v_t_size.toNatClampNeg p2))), (a_t_highs, .inl (E.2.1, 8, .inl (upd v_t_highs v_t_size.toNatClampNeg p3)))] H := hP
  have hD : va_D A [(a_t, .inr (0, [.ref a_t_spots, .ref a_t_lows, .ref a_t_highs, .int v_t_size])), (a_t_spots, .inl (E.2.1, 8, .inl (upd v_t_spots v_t_size.toNatClampNeg p1))), (a_t_lows, .inl (E.2.1, 8, .inl (upd v_t_lows v_t_size.toNatClampNeg p2))), (a_t_highs, .inl (E.2.1, 8, .inl (upd v_t_highs v_t_size.toNatClampNeg p3)))] := hD
  refine lv_aload_n (pc := 30) hx hb dX0_addGuard_30 rfl (lv_at hl 0 rfl) ?_
  refine lv_dup (pc := 31) hx hb dX0_addGuard_31 rfl ?_
  refine va_get (pc := 32) (ci := 0) (C := RX0) (T := TX0) (N := 4) hx hb hw0 (fun _ h9 => h9) hown hK.1 hP 0 rfl rfl 3 (by decide) (hT _ zw1 _) (fun _ h9 => h9) rfl dX0_addGuard_32 ?_
  refine lv_iconst (pc := 35) (v := (1 : Int32)) hx hb dX0_addGuard_35 (by decide) ?_
  refine lv_iadd (pc := 36) hx hb dX0_addGuard_36 ?_
  refine va_put (pc := 37) (ci := 0) (v := .int (v_t_size + (1 : Int32))) (ty := .int) (C := RX0) (T := TX0) (N := 4) hx hb hw0 (fun _ h9 => h9) tyX0 tyX0_ok nmX0 hown hK.1 hP hD hS 0 rfl rfl 3 (by decide) (hT _ zw1 _) (fun _ h9 => h9) rfl (tyX0_ok 3 (by decide)) rfl rfl (Nat.le_of_ble_eq_true rfl) dX0_addGuard_37 (fun H locs hP hD hS => ?_)
  have hP : va_P E.1 vwCl [(a_t, .inr (0, [.ref a_t_spots, .ref a_t_lows, .ref a_t_highs, .int (v_t_size + (1 : Int32))])), (a_t_spots, .inl (E.2.1, 8, .inl (upd v_t_spots v_t_size.toNatClampNeg p1))), (a_t_lows, .inl (E.2.1, 8, .inl (upd v_t_lows v_t_size.toNatClampNeg p2))), (a_t_highs, .inl (E.2.1, 8, .inl (upd v_t_highs v_t_size.toNatClampNeg p3)))] H := hP
  have hD : va_D A [(a_t, .inr (0, [.ref a_t_spots, .ref a_t_lows, .ref a_t_highs, .int (v_t_size + (1 : Int32))])), (a_t_spots, .inl (E.2.1, 8, .inl (upd v_t_spots v_t_size.toNatClampNeg p1))), (a_t_lows, .inl (E.2.1, 8, .inl (upd v_t_lows v_t_size.toNatClampNeg p2))), (a_t_highs, .inl (E.2.1, 8, .inl (upd v_t_highs v_t_size.toNatClampNeg p3)))] := hD
  obtain rfl := Option.some.inj h
  exact ret _ _ 40 _ dX0_addGuard_40 hP hD hS
def fX0_pullsHeldBy_26 : Option (Int32) := some (0 : Int32)
def fX0_pullsHeldBy_78 (x43_4 : Int32) : Option (Int32) := some x43_4
def fX0_pullsHeldBy_43 (v_t_lows : Nat → Int32) (p1 : Int32) : Nat → Int32 → Int32 → Option (Int32)
  | 0, _, _ => none
  | n43 + 1, x43_4, x43_5 => (if (300 : Int32) ≤ x43_4 then fX0_pullsHeldBy_78 x43_4 else ((fX4_toneOf x43_5).bind fun u11 => (if u11 < (v_t_lows p1.toNatClampNeg) then fX0_pullsHeldBy_78 x43_4 else ((fX4_worn x43_5).bind fun u14 => (fX0_pullsHeldBy_43 v_t_lows p1 n43) (x43_4 + (1 : Int32)) u14))))
def fX0_pullsHeldBy (v_t_lows : Nat → Int32) (v_t_highs : Nat → Int32) (p1 : Int32) (p2 : Int32) (p3 : Int32) : Option (Int32) := ((fX4_toneOf p2).bind fun u1 => (if inb p1 8 = true then (if u1 < (v_t_lows p1.toNatClampNeg) then fX0_pullsHeldBy_26 else ((fX4_toneOf p2).bind fun u5 => (if u5 ≤ (v_t_highs p1.toNatClampNeg) then ((fX4_worn p2).bind fun u8 => fX0_pullsHeldBy_43 v_t_lows p1 100000 (if (300 : Int32) < p3 then (300 : Int32) else p3) u8) else fX0_pullsHeldBy_26))) else none))
set_option maxHeartbeats 4000000 in
set_option maxRecDepth 100000 in
theorem mt_X0_pullsHeldBy (E : zE) (l : Launch) (a_t : Nat) (a_t_spots : Nat) (a_t_lows : Nat) (a_t_highs : Nat) (v_t_size : Int32) (v_t_lows : Nat → Int32) (v_t_highs : Nat → Int32) (p1 : Int32) (p2 : Int32) (p3 : Int32) (u : Int32) (hf : fX0_pullsHeldBy v_t_lows v_t_highs p1 p2 p3 = some u)   : zM E l yX0_pullsHeldBy [.code yX0_pullsHeldBy cX0_pullsHeldBy 6 (some .int)] { frames := 2, cells := 0, slots := 0, locals := 33 } [.ref a_t, .int p1, .int p2, .int p3] [(a_t, .inr (0, [.ref a_t_spots, .ref a_t_lows, .ref a_t_highs, .int v_t_size])), (a_t_lows, .inl (E.2.1, 8, .inl v_t_lows)), (a_t_highs, .inl (E.2.1, 8, .inl v_t_highs))] (some u) [(a_t, .inr (0, [.ref a_t_spots, .ref a_t_lows, .ref a_t_highs, .int v_t_size])), (a_t_lows, .inl (E.2.1, 8, .inl v_t_lows)), (a_t_highs, .inl (E.2.1, 8, .inl v_t_highs))] := by
  refine zM_int (ty := .int) (cc := cX0_pullsHeldBy) (nL := 6) (by decide) (Nat.le_of_ble_eq_true rfl) ?_
  intro p e R s m args below meth c A Q ls hRf hRl hx hb hml hown hK hA hP hD hS hl ret
  have hT := hK.2
  have hown : s.vm.findClass RX0 = some m.cls := hown
  have hl : lv_has ls 6 [(0, .ref a_t), (1, .int p1), (2, .int p2), (3, .int p3)] := hl
  have hw0 : ∀ w ∈ u_ws RX0 TX0 4, w.before args s = true := fun w h => hT w (zl_X0 w h) args
  have h := hf
  unfold fX0_pullsHeldBy at h
  refine lv_iload_n (pc := 0) hx hb dX0_pullsHeldBy_0 rfl (lv_at hl 2 rfl) ?_
  obtain ⟨u1, hg2, h⟩ := r_bind h
  refine z_callSN (pc := 1) (n := 1) (o := some u1) (As := [.int p2]) (rest := []) hx hb hml hown hK hA hP hD hS hl.1 ⟨Nat.zero_le _, Nat.zero_le _⟩ (mt_X4_toneOf E l p2 u1 hg2) zw8 zw9 zw10 zw11 (by decide +kernel) rfl ⟨rfl, rfl, Nat.le_trans (Nat.le_of_ble_eq_true rfl) hRf, Nat.le_trans (Nat.le_of_ble_eq_true rfl) hRl⟩ rfl (Nat.le_of_ble_eq_true rfl) dX0_pullsHeldBy_1 (fun H locs hP hD hS => ?_)
  have hP : va_P E.1 vwCl [(a_t, .inr (0, [.ref a_t_spots, .ref a_t_lows, .ref a_t_highs, .int v_t_size])), (a_t_lows, .inl (E.2.1, 8, .inl v_t_lows)), (a_t_highs, .inl (E.2.1, 8, .inl v_t_highs))] H := hP
  have hD : va_D A [(a_t, .inr (0, [.ref a_t_spots, .ref a_t_lows, .ref a_t_highs, .int v_t_size])), (a_t_lows, .inl (E.2.1, 8, .inl v_t_lows)), (a_t_highs, .inl (E.2.1, 8, .inl v_t_highs))] := hD
  refine lv_aload_n (pc := 4) hx hb dX0_pullsHeldBy_4 rfl (lv_at hl 0 rfl) ?_
  refine va_get (pc := 5) (ci := 0) (C := RX0) (T := TX0) (N := 4) hx hb hw0 (fun _ h9 => h9) hown hK.1 hP 0 rfl rfl 1 (by decide) (hT _ zw2 _) (fun _ h9 => h9) rfl dX0_pullsHeldBy_5 ?_
  refine lv_iload_n (pc := 8) hx hb dX0_pullsHeldBy_8 rfl (lv_at hl 1 rfl) ?_
  obtain ⟨hb3, h⟩ := r_in h
  refine va_iald (pc := 9) hx hb hK.1 hP 1 0 rfl rfl hb3 dX0_pullsHeldBy_9 ?_
  have J26 : ∀ (H : Heap) (locs : List Loc) (ls : Array Slot), fX0_pullsHeldBy_26 = some u → lv_has ls 6 [] → va_P E.1 vwCl [(a_t, .inr (0, [.ref a_t_spots, .ref a_t_lows, .ref a_t_highs, .int v_t_size])), (a_t_lows, .inl (E.2.1, 8, .inl v_t_lows)), (a_t_highs, .inl (E.2.1, 8, .inl v_t_highs))] H → va_D A [(a_t, .inr (0, [.ref a_t_spots, .ref a_t_lows, .ref a_t_highs, .int v_t_size])), (a_t_lows, .inl (E.2.1, 8, .inl v_t_lows)), (a_t_highs, .inl (E.2.1, 8, .inl v_t_highs))] → va_S A s.heap H locs → W p l e R s m args below meth c H locs 0 0 Q (F0 m 26 ls []) := by
    intro H locs ls h hl hP hD hS
    unfold fX0_pullsHeldBy_26 at h
    refine lv_iconst (pc := 26) (v := (0 : Int32)) hx hb dX0_pullsHeldBy_26 (by decide) ?_
    obtain rfl := Option.some.inj h
    exact ret _ _ 27 _ rfl dX0_pullsHeldBy_27 hP hD hS
  refine lv_icmp_lt (pc := 10) (tgt := 26) hx hb dX0_pullsHeldBy_10 (by decide) (fun c4 => ?_) (fun c4 => ?_)
  · have h := r_pos h c4
    exact J26 _ _ _ h (lv_sub hl [] rfl) hP hD hS
  · have h := r_neg h c4
    refine lv_iload_n (pc := 13) hx hb dX0_pullsHeldBy_13 rfl (lv_at hl 2 rfl) ?_
    obtain ⟨u5, hg6, h⟩ := r_bind h
    refine z_callSN (pc := 14) (n := 1) (o := some u5) (As := [.int p2]) (rest := []) hx hb hml hown hK hA hP hD hS hl.1 ⟨Nat.zero_le _, Nat.zero_le _⟩ (mt_X4_toneOf E l p2 u5 hg6) zw8 zw9 zw10 zw11 (by decide +kernel) rfl ⟨rfl, rfl, Nat.le_trans (Nat.le_of_ble_eq_true rfl) hRf, Nat.le_trans (Nat.le_of_ble_eq_true rfl) hRl⟩ rfl (Nat.le_of_ble_eq_true rfl) dX0_pullsHeldBy_14 (fun H locs hP hD hS => ?_)
    have hP : va_P E.1 vwCl [(a_t, .inr (0, [.ref a_t_spots, .ref a_t_lows, .ref a_t_highs, .int v_t_size])), (a_t_lows, .inl (E.2.1, 8, .inl v_t_lows)), (a_t_highs, .inl (E.2.1, 8, .inl v_t_highs))] H := hP
    have hD : va_D A [(a_t, .inr (0, [.ref a_t_spots, .ref a_t_lows, .ref a_t_highs, .int v_t_size])), (a_t_lows, .inl (E.2.1, 8, .inl v_t_lows)), (a_t_highs, .inl (E.2.1, 8, .inl v_t_highs))] := hD
    refine lv_aload_n (pc := 17) hx hb dX0_pullsHeldBy_17 rfl (lv_at hl 0 rfl) ?_
    refine va_get (pc := 18) (ci := 0) (C := RX0) (T := TX0) (N := 4) hx hb hw0 (fun _ h9 => h9) hown hK.1 hP 0 rfl rfl 2 (by decide) (hT _ zw3 _) (fun _ h9 => h9) rfl dX0_pullsHeldBy_18 ?_
    refine lv_iload_n (pc := 21) hx hb dX0_pullsHeldBy_21 rfl (lv_at hl 1 rfl) ?_
    refine va_iald (pc := 22) hx hb hK.1 hP 2 0 rfl rfl hb3 dX0_pullsHeldBy_22 ?_
    refine lv_icmp_le (pc := 23) (tgt := 28) hx hb dX0_pullsHeldBy_23 (by decide) (fun c7 => ?_) (fun c7 => ?_)
    · have h := r_pos h c7
      refine lv_iload_n (pc := 28) hx hb dX0_pullsHeldBy_28 rfl (lv_at hl 3 rfl) ?_
      refine lv_sipush (pc := 29) (v := (300 : Int32)) hx hb dX0_pullsHeldBy_29 (by decide) ?_
      refine va_mmin (pc := 32) hx hb (by rw [hml]; exact hl.1.symm) hown (hT _ zw12 _) (hT _ zw5 _) (hT _ zw6 _) (hT _ zw7 _) (Nat.le_trans (Nat.le_of_ble_eq_true rfl) hRf) (Nat.le_trans (Nat.le_of_ble_eq_true rfl) hRl) (Nat.zero_le _) (Nat.zero_le _) dX0_pullsHeldBy_32 ?_
      refine lv_istore (pc := 35) (lv' := [(4, .int (if (300 : Int32) < p3 then (300 : Int32) else p3)), (0, .ref a_t), (1, .int p1), (2, .int p2), (3, .int p3)]) hx hb dX0_pullsHeldBy_35 hl (by decide) rfl (fun ls hl => ?_)
      refine lv_iload_n (pc := 37) hx hb dX0_pullsHeldBy_37 rfl (lv_at hl 3 rfl) ?_
      obtain ⟨u8, hg9, h⟩ := r_bind h
      refine z_callSN (pc := 38) (n := 1) (o := some u8) (As := [.int p2]) (rest := []) hx hb hml hown hK hA hP hD hS hl.1 ⟨Nat.zero_le _, Nat.zero_le _⟩ (mt_X4_worn E l p2 u8 hg9) zw13 zw14 zw10 zw15 (by decide +kernel) rfl ⟨rfl, rfl, Nat.le_trans (Nat.le_of_ble_eq_true rfl) hRf, Nat.le_trans (Nat.le_of_ble_eq_true rfl) hRl⟩ rfl (Nat.le_of_ble_eq_true rfl) dX0_pullsHeldBy_38 (fun H locs hP hD hS => ?_)
      have hP : va_P E.1 vwCl [(a_t, .inr (0, [.ref a_t_spots, .ref a_t_lows, .ref a_t_highs, .int v_t_size])), (a_t_lows, .inl (E.2.1, 8, .inl v_t_lows)), (a_t_highs, .inl (E.2.1, 8, .inl v_t_highs))] H := hP
      have hD : va_D A [(a_t, .inr (0, [.ref a_t_spots, .ref a_t_lows, .ref a_t_highs, .int v_t_size])), (a_t_lows, .inl (E.2.1, 8, .inl v_t_lows)), (a_t_highs, .inl (E.2.1, 8, .inl v_t_highs))] := hD
      refine lv_istore (pc := 41) (lv' := [(5, .int u8), (4, .int (if (300 : Int32) < p3 then (300 : Int32) else p3)), (0, .ref a_t), (1, .int p1), (2, .int p2), (3, .int p3)]) hx hb dX0_pullsHeldBy_41 hl (by decide) rfl (fun ls hl => ?_)
      have J43 : ∀ (n43 : Nat) (x43_4 : Int32) (x43_5 : Int32) (H : Heap) (locs : List Loc) (ls : Array Slot), fX0_pullsHeldBy_43 v_t_lows p1 n43 x43_4 x43_5 = some u → lv_has ls 6 [(0, .ref a_t), (1, .int p1), (4, .int x43_4), (5, .int x43_5)] → va_P E.1 vwCl [(a_t, .inr (0, [.ref a_t_spots, .ref a_t_lows, .ref a_t_highs, .int v_t_size])), (a_t_lows, .inl (E.2.1, 8, .inl v_t_lows)), (a_t_highs, .inl (E.2.1, 8, .inl v_t_highs))] H → va_D A [(a_t, .inr (0, [.ref a_t_spots, .ref a_t_lows, .ref a_t_highs, .int v_t_size])), (a_t_lows, .inl (E.2.1, 8, .inl v_t_lows)), (a_t_highs, .inl (E.2.1, 8, .inl v_t_highs))] → va_S A s.heap H locs → W p l e R s m args below meth c H locs 0 0 Q (F0 m 43 ls []) := by
        intro n43
        induction n43 with
        | zero =>
          intro x43_4 x43_5 H locs ls h hl hP hD hS
          rw [fX0_pullsHeldBy_43] at h
          cases h
        | succ n43 ih43 =>
          intro x43_4 x43_5 H locs ls h hl hP hD hS
          rw [fX0_pullsHeldBy_43] at h
          refine lv_iload (pc := 43) hx hb dX0_pullsHeldBy_43 (lv_at hl 2 rfl) ?_
          refine lv_sipush (pc := 45) (v := (300 : Int32)) hx hb dX0_pullsHeldBy_45 (by decide) ?_
          have J78 : ∀ (H : Heap) (locs : List Loc) (ls : Array Slot), fX0_pullsHeldBy_78 x43_4 = some u → lv_has ls 6 [(4, .int x43_4)] → va_P E.1 vwCl [(a_t, .inr (0, [.ref a_t_spots, .ref a_t_lows, .ref a_t_highs, .int v_t_size])), (a_t_lows, .inl (E.2.1, 8, .inl v_t_lows)), (a_t_highs, .inl (E.2.1, 8, .inl v_t_highs))] H → va_D A [(a_t, .inr (0, [.ref a_t_spots, .ref a_t_lows, .ref a_t_highs, .int v_t_size])), (a_t_lows, .inl (E.2.1, 8, .inl v_t_lows)), (a_t_highs, .inl (E.2.1, 8, .inl v_t_highs))] → va_S A s.heap H locs → W p l e R s m args below meth c H locs 0 0 Q (F0 m 78 ls []) := by
            intro H locs ls h hl hP hD hS
            unfold fX0_pullsHeldBy_78 at h
            refine lv_iload (pc := 78) hx hb dX0_pullsHeldBy_78 (lv_at hl 0 rfl) ?_
            obtain rfl := Option.some.inj h
            exact ret _ _ 80 _ rfl dX0_pullsHeldBy_80 hP hD hS
          refine lv_icmp_ge (pc := 48) (tgt := 78) hx hb dX0_pullsHeldBy_48 (by decide) (fun c10 => ?_) (fun c10 => ?_)
          · have h := r_pos h c10
            exact J78 _ _ _ h (lv_sub hl [2] rfl) hP hD hS
          · have h := r_neg h c10
            refine lv_iload (pc := 51) hx hb dX0_pullsHeldBy_51 (lv_at hl 3 rfl) ?_
            obtain ⟨u11, hg12, h⟩ := r_bind h
            refine z_callSN (pc := 53) (n := 1) (o := some u11) (As := [.int x43_5]) (rest := []) hx hb hml hown hK hA hP hD hS hl.1 ⟨Nat.zero_le _, Nat.zero_le _⟩ (mt_X4_toneOf E l x43_5 u11 hg12) zw8 zw9 zw10 zw11 (by decide +kernel) rfl ⟨rfl, rfl, Nat.le_trans (Nat.le_of_ble_eq_true rfl) hRf, Nat.le_trans (Nat.le_of_ble_eq_true rfl) hRl⟩ rfl (Nat.le_of_ble_eq_true rfl) dX0_pullsHeldBy_53 (fun H locs hP hD hS => ?_)
            have hP : va_P E.1 vwCl [(a_t, .inr (0, [.ref a_t_spots, .ref a_t_lows, .ref a_t_highs, .int v_t_size])), (a_t_lows, .inl (E.2.1, 8, .inl v_t_lows)), (a_t_highs, .inl (E.2.1, 8, .inl v_t_highs))] H := hP
            have hD : va_D A [(a_t, .inr (0, [.ref a_t_spots, .ref a_t_lows, .ref a_t_highs, .int v_t_size])), (a_t_lows, .inl (E.2.1, 8, .inl v_t_lows)), (a_t_highs, .inl (E.2.1, 8, .inl v_t_highs))] := hD
            refine lv_aload_n (pc := 56) hx hb dX0_pullsHeldBy_56 rfl (lv_at hl 0 rfl) ?_
            refine va_get (pc := 57) (ci := 0) (C := RX0) (T := TX0) (N := 4) hx hb hw0 (fun _ h9 => h9) hown hK.1 hP 0 rfl rfl 1 (by decide) (hT _ zw2 _) (fun _ h9 => h9) rfl dX0_pullsHeldBy_57 ?_
            refine lv_iload_n (pc := 60) hx hb dX0_pullsHeldBy_60 rfl (lv_at hl 1 rfl) ?_
            refine va_iald (pc := 61) hx hb hK.1 hP 1 0 rfl rfl hb3 dX0_pullsHeldBy_61 ?_
            refine lv_icmp_lt (pc := 62) (tgt := 78) hx hb dX0_pullsHeldBy_62 (by decide) (fun c13 => ?_) (fun c13 => ?_)
            · have h := r_pos h c13
              exact J78 _ _ _ h (lv_sub hl [2] rfl) hP hD hS
            · have h := r_neg h c13
              refine lv_iinc (pc := 65) (v := (x43_4 + (1 : Int32))) (lv' := [(4, .int (x43_4 + (1 : Int32))), (0, .ref a_t), (1, .int p1), (5, .int x43_5)]) hx hb dX0_pullsHeldBy_65 hl (k := 2) rfl rfl (by decide) rfl (fun ls hl => ?_)
              refine lv_iload (pc := 68) hx hb dX0_pullsHeldBy_68 (lv_at hl 3 rfl) ?_
              obtain ⟨u14, hg15, h⟩ := r_bind h
              refine z_callSN (pc := 70) (n := 1) (o := some u14) (As := [.int x43_5]) (rest := []) hx hb hml hown hK hA hP hD hS hl.1 ⟨Nat.zero_le _, Nat.zero_le _⟩ (mt_X4_worn E l x43_5 u14 hg15) zw13 zw14 zw10 zw15 (by decide +kernel) rfl ⟨rfl, rfl, Nat.le_trans (Nat.le_of_ble_eq_true rfl) hRf, Nat.le_trans (Nat.le_of_ble_eq_true rfl) hRl⟩ rfl (Nat.le_of_ble_eq_true rfl) dX0_pullsHeldBy_70 (fun H locs hP hD hS => ?_)
              have hP : va_P E.1 vwCl [(a_t, .inr (0, [.ref a_t_spots, .ref a_t_lows, .ref a_t_highs, .int v_t_size])), (a_t_lows, .inl (E.2.1, 8, .inl v_t_lows)), (a_t_highs, .inl (E.2.1, 8, .inl v_t_highs))] H := hP
              have hD : va_D A [(a_t, .inr (0, [.ref a_t_spots, .ref a_t_lows, .ref a_t_highs, .int v_t_size])), (a_t_lows, .inl (E.2.1, 8, .inl v_t_lows)), (a_t_highs, .inl (E.2.1, 8, .inl v_t_highs))] := hD
              refine lv_istore (pc := 73) (lv' := [(5, .int u14), (4, .int (x43_4 + (1 : Int32))), (0, .ref a_t), (1, .int p1)]) hx hb dX0_pullsHeldBy_73 hl (by decide) rfl (fun ls hl => ?_)
              refine lv_goto (pc := 75) (tgt := 43) hx hb dX0_pullsHeldBy_75 (by decide) ?_
              exact ih43 (x43_4 + (1 : Int32)) u14 _ _ _ h (lv_sub hl [2, 3, 1, 0] rfl) hP hD hS
      exact J43 _ (if (300 : Int32) < p3 then (300 : Int32) else p3) u8 _ _ _ h (lv_sub hl [2, 3, 1, 0] rfl) hP hD hS
    · have h := r_neg h c7
      exact J26 _ _ _ h (lv_sub hl [] rfl) hP hD hS
def fX0_pullsHeld_7 (v_t_spots : Nat → Int32) (v_t_lows : Nat → Int32) (v_t_highs : Nat → Int32) (v_t_size : Int32) (v_o1_depths : Nat → Int32) (p2 : Int32) : Nat → Int32 → Int32 → Option (Int32)
  | 0, _, _ => none
  | n7 + 1, x7_3, x7_4 => (if v_t_size ≤ x7_4 then some x7_3 else (if inb x7_4 8 = true then (if inb (v_t_spots x7_4.toNatClampNeg) 108 = true then ((fX0_pullsHeldBy v_t_lows v_t_highs x7_4 (v_o1_depths (v_t_spots x7_4.toNatClampNeg).toNatClampNeg) p2).bind fun u4 => (fX0_pullsHeld_7 v_t_spots v_t_lows v_t_highs v_t_size v_o1_depths p2 n7) (if u4 < x7_3 then u4 else x7_3) (x7_4 + (1 : Int32))) else none) else none))
def fX0_pullsHeld (v_t_spots : Nat → Int32) (v_t_lows : Nat → Int32) (v_t_highs : Nat → Int32) (v_t_size : Int32) (v_o1_depths : Nat → Int32) (p2 : Int32) : Option (Int32) := fX0_pullsHeld_7 v_t_spots v_t_lows v_t_highs v_t_size v_o1_depths p2 100000 (300 : Int32) (0 : Int32)
set_option maxHeartbeats 4000000 in
set_option maxRecDepth 100000 in
theorem mt_X0_pullsHeld (E : zE) (l : Launch) (a_t : Nat) (a_t_spots : Nat) (a_t_lows : Nat) (a_t_highs : Nat) (a_o1 : Nat) (a_o1_kinds : Nat) (a_o1_depths : Nat) (a_o1_lives : Nat) (a_o1_stops : Nat) (v_t_size : Int32) (v_t_spots : Nat → Int32) (v_t_lows : Nat → Int32) (v_t_highs : Nat → Int32) (v_o1_depths : Nat → Int32) (p2 : Int32) (u : Int32) (hf : fX0_pullsHeld v_t_spots v_t_lows v_t_highs v_t_size v_o1_depths p2 = some u)   : zM E l yX0_pullsHeld [.code yX0_pullsHeld cX0_pullsHeld 5 (some .int)] { frames := 3, cells := 0, slots := 0, locals := 58 } [.ref a_t, .ref a_o1, .int p2] [(a_t, .inr (0, [.ref a_t_spots, .ref a_t_lows, .ref a_t_highs, .int v_t_size])), (a_t_spots, .inl (E.2.1, 8, .inl v_t_spots)), (a_t_lows, .inl (E.2.1, 8, .inl v_t_lows)), (a_t_highs, .inl (E.2.1, 8, .inl v_t_highs)), (a_o1, .inr (1, [.ref a_o1_kinds, .ref a_o1_depths, .ref a_o1_lives, .ref a_o1_stops])), (a_o1_depths, .inl (E.2.1, 108, .inl v_o1_depths))] (some u) [(a_t, .inr (0, [.ref a_t_spots, .ref a_t_lows, .ref a_t_highs, .int v_t_size])), (a_t_spots, .inl (E.2.1, 8, .inl v_t_spots)), (a_t_lows, .inl (E.2.1, 8, .inl v_t_lows)), (a_t_highs, .inl (E.2.1, 8, .inl v_t_highs)), (a_o1, .inr (1, [.ref a_o1_kinds, .ref a_o1_depths, .ref a_o1_lives, .ref a_o1_stops])), (a_o1_depths, .inl (E.2.1, 108, .inl v_o1_depths))] := by
  refine zM_int (ty := .int) (cc := cX0_pullsHeld) (nL := 5) (by decide) (Nat.le_of_ble_eq_true rfl) ?_
  intro p e R s m args below meth c A Q ls hRf hRl hx hb hml hown hK hA hP hD hS hl ret
  have hT := hK.2
  have hown : s.vm.findClass RX0 = some m.cls := hown
  have hl : lv_has ls 5 [(0, .ref a_t), (1, .ref a_o1), (2, .int p2)] := hl
  have hw0 : ∀ w ∈ u_ws RX0 TX0 4, w.before args s = true := fun w h => hT w (zl_X0 w h) args
  have hw1 : ∀ w ∈ u_ws RX1 TX1 4, w.before args s = true := fun w h => hT w (zl_X1 w h) args
  have h := hf
  unfold fX0_pullsHeld at h
  refine lv_sipush (pc := 0) (v := (300 : Int32)) hx hb dX0_pullsHeld_0 (by decide) ?_
  refine lv_istore_n (pc := 3) (lv' := [(3, .int (300 : Int32)), (0, .ref a_t), (1, .ref a_o1), (2, .int p2)]) hx hb dX0_pullsHeld_3 rfl hl (by decide) rfl (fun ls hl => ?_)
  refine lv_iconst (pc := 4) (v := (0 : Int32)) hx hb dX0_pullsHeld_4 (by decide) ?_
  refine lv_istore (pc := 5) (lv' := [(4, .int (0 : Int32)), (3, .int (300 : Int32)), (0, .ref a_t), (1, .ref a_o1), (2, .int p2)]) hx hb dX0_pullsHeld_5 hl (by decide) rfl (fun ls hl => ?_)
  have J7 : ∀ (n7 : Nat) (x7_3 : Int32) (x7_4 : Int32) (H : Heap) (locs : List Loc) (ls : Array Slot), fX0_pullsHeld_7 v_t_spots v_t_lows v_t_highs v_t_size v_o1_depths p2 n7 x7_3 x7_4 = some u → lv_has ls 5 [(0, .ref a_t), (1, .ref a_o1), (2, .int p2), (3, .int x7_3), (4, .int x7_4)] → va_P E.1 vwCl [(a_t, .inr (0, [.ref a_t_spots, .ref a_t_lows, .ref a_t_highs, .int v_t_size])), (a_t_spots, .inl (E.2.1, 8, .inl v_t_spots)), (a_t_lows, .inl (E.2.1, 8, .inl v_t_lows)), (a_t_highs, .inl (E.2.1, 8, .inl v_t_highs)), (a_o1, .inr (1, [.ref a_o1_kinds, .ref a_o1_depths, .ref a_o1_lives, .ref a_o1_stops])), (a_o1_depths, .inl (E.2.1, 108, .inl v_o1_depths))] H → va_D A [(a_t, .inr (0, [.ref a_t_spots, .ref a_t_lows, .ref a_t_highs, .int v_t_size])), (a_t_spots, .inl (E.2.1, 8, .inl v_t_spots)), (a_t_lows, .inl (E.2.1, 8, .inl v_t_lows)), (a_t_highs, .inl (E.2.1, 8, .inl v_t_highs)), (a_o1, .inr (1, [.ref a_o1_kinds, .ref a_o1_depths, .ref a_o1_lives, .ref a_o1_stops])), (a_o1_depths, .inl (E.2.1, 108, .inl v_o1_depths))] → va_S A s.heap H locs → W p l e R s m args below meth c H locs 0 0 Q (F0 m 7 ls []) := by
    intro n7
    induction n7 with
    | zero =>
      intro x7_3 x7_4 H locs ls h hl hP hD hS
      rw [fX0_pullsHeld_7] at h
      cases h
    | succ n7 ih7 =>
      intro x7_3 x7_4 H locs ls h hl hP hD hS
      rw [fX0_pullsHeld_7] at h
      refine lv_iload (pc := 7) hx hb dX0_pullsHeld_7 (lv_at hl 4 rfl) ?_
      refine lv_aload_n (pc := 9) hx hb dX0_pullsHeld_9 rfl (lv_at hl 0 rfl) ?_
      refine va_get (pc := 10) (ci := 0) (C := RX0) (T := TX0) (N := 4) hx hb hw0 (fun _ h9 => h9) hown hK.1 hP 0 rfl rfl 3 (by decide) (hT _ zw1 _) (fun _ h9 => h9) rfl dX0_pullsHeld_10 ?_
      refine lv_icmp_ge (pc := 13) (tgt := 46) hx hb dX0_pullsHeld_13 (by decide) (fun c1 => ?_) (fun c1 => ?_)
      · have h := r_pos h c1
        refine lv_iload_n (pc := 46) hx hb dX0_pullsHeld_46 rfl (lv_at hl 3 rfl) ?_
        obtain rfl := Option.some.inj h
        exact ret _ _ 47 _ rfl dX0_pullsHeld_47 hP hD hS
      · have h := r_neg h c1
        refine lv_iload_n (pc := 16) hx hb dX0_pullsHeld_16 rfl (lv_at hl 3 rfl) ?_
        refine lv_aload_n (pc := 17) hx hb dX0_pullsHeld_17 rfl (lv_at hl 0 rfl) ?_
        refine lv_iload (pc := 18) hx hb dX0_pullsHeld_18 (lv_at hl 4 rfl) ?_
        refine lv_aload_n (pc := 20) hx hb dX0_pullsHeld_20 rfl (lv_at hl 1 rfl) ?_
        refine va_getN (pc := 21) (ci := 1) (C := RX1) (T := TX1) (N := 4) hx hb hw1 (fun _ h9 => h9) hown hK.1 hP 4 rfl rfl 1 (by decide) (hT _ zw16 _) (fun _ h9 => h9) rfl dX0_pullsHeld_21 ?_
        refine lv_aload_n (pc := 24) hx hb dX0_pullsHeld_24 rfl (lv_at hl 0 rfl) ?_
        refine va_get (pc := 25) (ci := 0) (C := RX0) (T := TX0) (N := 4) hx hb hw0 (fun _ h9 => h9) hown hK.1 hP 0 rfl rfl 0 (by decide) (hT _ zw0 _) (fun _ h9 => h9) rfl dX0_pullsHeld_25 ?_
        refine lv_iload (pc := 28) hx hb dX0_pullsHeld_28 (lv_at hl 4 rfl) ?_
        obtain ⟨hb2, h⟩ := r_in h
        refine va_iald (pc := 30) hx hb hK.1 hP 1 0 rfl rfl hb2 dX0_pullsHeld_30 ?_
        obtain ⟨hb3, h⟩ := r_in h
        refine va_iald (pc := 31) hx hb hK.1 hP 5 0 rfl rfl hb3 dX0_pullsHeld_31 ?_
        refine lv_iload_n (pc := 32) hx hb dX0_pullsHeld_32 rfl (lv_at hl 2 rfl) ?_
        obtain ⟨u4, hg5, h⟩ := r_bind h
        refine z_callV (pc := 33) (n := 3) (o := some u4) (As := [.int x7_4, .int (v_o1_depths (v_t_spots x7_4.toNatClampNeg).toNatClampNeg), .int p2]) (rest := [.int x7_3]) (ci := 0) (q0 := 0) (wc := [(a_t, .inr (0, [.ref a_t_spots, .ref a_t_lows, .ref a_t_highs, .int v_t_size])), (a_t_lows, .inl (E.2.1, 8, .inl v_t_lows)), (a_t_highs, .inl (E.2.1, 8, .inl v_t_highs))]) (wc' := [(a_t, .inr (0, [.ref a_t_spots, .ref a_t_lows, .ref a_t_highs, .int v_t_size])), (a_t_lows, .inl (E.2.1, 8, .inl v_t_lows)), (a_t_highs, .inl (E.2.1, 8, .inl v_t_highs))]) (wr := [(a_t_spots, .inl (E.2.1, 8, .inl v_t_spots)), (a_o1, .inr (1, [.ref a_o1_kinds, .ref a_o1_depths, .ref a_o1_lives, .ref a_o1_stops])), (a_o1_depths, .inl (E.2.1, 108, .inl v_o1_depths))]) hx hb hml hown hK hA hP hD hS hl.1 ⟨Nat.zero_le _, Nat.zero_le _⟩ (mt_X0_pullsHeldBy E l a_t a_t_spots a_t_lows a_t_highs v_t_size v_t_lows v_t_highs x7_4 (v_o1_depths (v_t_spots x7_4.toNatClampNeg).toNatClampNeg) p2 u4 hg5) zw17 zw18 zw19 zw20 zw21 (by decide +kernel) rfl ⟨rfl, rfl, Nat.le_trans (Nat.le_of_ble_eq_true rfl) hRf, Nat.le_trans (Nat.le_of_ble_eq_true rfl) hRl⟩ [0, 2, 3] [1, 4, 5] (by decide) rfl rfl (by decide) (by decide) rfl rfl rfl (Nat.le_of_ble_eq_true rfl) dX0_pullsHeld_33 (fun H locs hP hD hS => ?_)
        have hP : va_P E.1 vwCl [(a_t_spots, .inl (E.2.1, 8, .inl v_t_spots)), (a_o1, .inr (1, [.ref a_o1_kinds, .ref a_o1_depths, .ref a_o1_lives, .ref a_o1_stops])), (a_o1_depths, .inl (E.2.1, 108, .inl v_o1_depths)), (a_t, .inr (0, [.ref a_t_spots, .ref a_t_lows, .ref a_t_highs, .int v_t_size])), (a_t_lows, .inl (E.2.1, 8, .inl v_t_lows)), (a_t_highs, .inl (E.2.1, 8, .inl v_t_highs))] H := hP
        have hD : va_D A [(a_t_spots, .inl (E.2.1, 8, .inl v_t_spots)), (a_o1, .inr (1, [.ref a_o1_kinds, .ref a_o1_depths, .ref a_o1_lives, .ref a_o1_stops])), (a_o1_depths, .inl (E.2.1, 108, .inl v_o1_depths)), (a_t, .inr (0, [.ref a_t_spots, .ref a_t_lows, .ref a_t_highs, .int v_t_size])), (a_t_lows, .inl (E.2.1, 8, .inl v_t_lows)), (a_t_highs, .inl (E.2.1, 8, .inl v_t_highs))] := hD
        refine va_mmin (pc := 36) hx hb (by rw [hml]; exact hl.1.symm) hown (hT _ zw12 _) (hT _ zw5 _) (hT _ zw6 _) (hT _ zw7 _) (Nat.le_trans (Nat.le_of_ble_eq_true rfl) hRf) (Nat.le_trans (Nat.le_of_ble_eq_true rfl) hRl) (Nat.zero_le _) (Nat.zero_le _) dX0_pullsHeld_36 ?_
        refine lv_istore_n (pc := 39) (lv' := [(3, .int (if u4 < x7_3 then u4 else x7_3)), (0, .ref a_t), (1, .ref a_o1), (2, .int p2), (4, .int x7_4)]) hx hb dX0_pullsHeld_39 rfl hl (by decide) rfl (fun ls hl => ?_)
        refine lv_iinc (pc := 40) (v := (x7_4 + (1 : Int32))) (lv' := [(4, .int (x7_4 + (1 : Int32))), (3, .int (if u4 < x7_3 then u4 else x7_3)), (0, .ref a_t), (1, .ref a_o1), (2, .int p2)]) hx hb dX0_pullsHeld_40 hl (k := 4) rfl rfl (by decide) rfl (fun ls hl => ?_)
        refine lv_goto (pc := 43) (tgt := 7) hx hb dX0_pullsHeld_43 (by decide) ?_
        exact ih7 (if u4 < x7_3 then u4 else x7_3) (x7_4 + (1 : Int32)) _ _ _ h (lv_sub hl [2, 3, 4, 1, 0] rfl) (hP.sub [3, 0, 4, 5, 1, 2] rfl) (hD.sub [3, 0, 4, 5, 1, 2] (by decide) rfl) hS
  exact J7 _ (300 : Int32) (0 : Int32) _ _ _ h (lv_sub hl [2, 3, 4, 1, 0] rfl) hP hD hS
