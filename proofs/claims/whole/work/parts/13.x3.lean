def fX3_isOfSamePlate_23 : Option (Int32) := some (1 : Int32)
def fX3_isOfSamePlate (v_t_spots : Nat → Int32) (v_t_size : Int32) (p1 : Int32) : Option (Int32) := (if v_t_size = 0 then fX3_isOfSamePlate_23 else (if inb (0 : Int32) 8 = true then (if ((v_t_spots (0 : Int32).toNatClampNeg) / (36 : Int32)) = (p1 / (36 : Int32)) then fX3_isOfSamePlate_23 else some (0 : Int32)) else none))
set_option maxHeartbeats 4000000 in
set_option maxRecDepth 100000 in
theorem mt_X3_isOfSamePlate (E : zE) (l : Launch) (a_t : Nat) (a_t_spots : Nat) (a_t_tones : Nat) (a_t_firsts : Nat) (a_t_lasts : Nat) (a_t_minutes : Nat) (v_t_size : Int32) (v_t_planned : Int32) (v_t_spots : Nat → Int32) (p1 : Int32) (u : Int32) (hf : fX3_isOfSamePlate v_t_spots v_t_size p1 = some u)   : zM E l yX3_isOfSamePlate [.code yX3_isOfSamePlate cX3_isOfSamePlate 2 (some .boolean)] { frames := 0, cells := 0, slots := 0, locals := 0 } [.ref a_t, .int p1] [(a_t, .inr (3, [.ref a_t_spots, .ref a_t_tones, .ref a_t_firsts, .ref a_t_lasts, .ref a_t_minutes, .int v_t_size, .int v_t_planned])), (a_t_spots, .inl (E.2.1, 8, .inl v_t_spots))] (some u) [(a_t, .inr (3, [.ref a_t_spots, .ref a_t_tones, .ref a_t_firsts, .ref a_t_lasts, .ref a_t_minutes, .int v_t_size, .int v_t_planned])), (a_t_spots, .inl (E.2.1, 8, .inl v_t_spots))] := by
  refine zM_int (ty := .boolean) (cc := cX3_isOfSamePlate) (nL := 2) (by decide) (Nat.le_of_ble_eq_true rfl) ?_
  intro p e R s m args below meth c A Q ls hRf hRl hx hb hml hown hK hA hP hD hS hl ret
  have hT := hK.2
  have hown : s.vm.findClass RX3 = some m.cls := hown
  have hl : lv_has ls 2 [(0, .ref a_t), (1, .int p1)] := hl
  have hw3 : ∀ w ∈ u_ws RX3 TX3 7, w.before args s = true := fun w h => hT w (zl_X3 w h) args
  have h := hf
  unfold fX3_isOfSamePlate at h
  refine lv_aload_n (pc := 0) hx hb dX3_isOfSamePlate_0 rfl (lv_at hl 0 rfl) ?_
  refine va_get (pc := 1) (ci := 3) (C := RX3) (T := TX3) (N := 7) hx hb hw3 (fun _ h9 => h9) hown hK.1 hP 0 rfl rfl 5 (by decide) (hT _ zw71 _) (fun _ h9 => h9) rfl dX3_isOfSamePlate_1 ?_
  have J23 : ∀ (H : Heap) (locs : List Loc) (ls : Array Slot), fX3_isOfSamePlate_23 = some u → lv_has ls 2 [] → va_P E.1 vwCl [(a_t, .inr (3, [.ref a_t_spots, .ref a_t_tones, .ref a_t_firsts, .ref a_t_lasts, .ref a_t_minutes, .int v_t_size, .int v_t_planned])), (a_t_spots, .inl (E.2.1, 8, .inl v_t_spots))] H → va_D A [(a_t, .inr (3, [.ref a_t_spots, .ref a_t_tones, .ref a_t_firsts, .ref a_t_lasts, .ref a_t_minutes, .int v_t_size, .int v_t_planned])), (a_t_spots, .inl (E.2.1, 8, .inl v_t_spots))] → va_S A s.heap H locs → W p l e R s m args below meth c H locs 0 0 Q (F0 m 23 ls []) := by
    intro H locs ls h hl hP hD hS
    unfold fX3_isOfSamePlate_23 at h
    refine lv_iconst (pc := 23) (v := (1 : Int32)) hx hb dX3_isOfSamePlate_23 (by decide) ?_
    refine lv_goto (pc := 24) (tgt := 28) hx hb dX3_isOfSamePlate_24 (by decide) ?_
    obtain rfl := Option.some.inj h
    exact ret _ _ 28 _ zb1 dX3_isOfSamePlate_28 hP hD hS
  refine lv_if_eq (pc := 4) (tgt := 23) hx hb dX3_isOfSamePlate_4 (by decide) (fun c1 => ?_) (fun c1 => ?_)
  · have h := r_pos h c1
    exact J23 _ _ _ h (lv_sub hl [] rfl) hP hD hS
  · have h := r_neg h c1
    refine lv_aload_n (pc := 7) hx hb dX3_isOfSamePlate_7 rfl (lv_at hl 0 rfl) ?_
    refine va_get (pc := 8) (ci := 3) (C := RX3) (T := TX3) (N := 7) hx hb hw3 (fun _ h9 => h9) hown hK.1 hP 0 rfl rfl 0 (by decide) (hT _ zw72 _) (fun _ h9 => h9) rfl dX3_isOfSamePlate_8 ?_
    refine lv_iconst (pc := 11) (v := (0 : Int32)) hx hb dX3_isOfSamePlate_11 (by decide) ?_
    obtain ⟨hb2, h⟩ := r_in h
    refine va_iald (pc := 12) hx hb hK.1 hP 1 0 rfl rfl hb2 dX3_isOfSamePlate_12 ?_
    refine lv_bipush (pc := 13) (v := (36 : Int32)) hx hb dX3_isOfSamePlate_13 (by decide) ?_
    refine lv_idiv (pc := 15) hx hb dX3_isOfSamePlate_15 (by decide) ?_
    refine lv_iload_n (pc := 16) hx hb dX3_isOfSamePlate_16 rfl (lv_at hl 1 rfl) ?_
    refine lv_bipush (pc := 17) (v := (36 : Int32)) hx hb dX3_isOfSamePlate_17 (by decide) ?_
    refine lv_idiv (pc := 19) hx hb dX3_isOfSamePlate_19 (by decide) ?_
    refine lv_icmp_ne (pc := 20) (tgt := 27) hx hb dX3_isOfSamePlate_20 (by decide) (fun c3 => ?_) (fun c3 => ?_)
    · have h := r_neg h c3
      refine lv_iconst (pc := 27) (v := (0 : Int32)) hx hb dX3_isOfSamePlate_27 (by decide) ?_
      obtain rfl := Option.some.inj h
      exact ret _ _ 28 _ zb0 dX3_isOfSamePlate_28 hP hD hS
    · have h := r_pos h c3
      exact J23 _ _ _ h (lv_sub hl [] rfl) hP hD hS
def fX3_hasSpot_2 (v_t_spots : Nat → Int32) (v_t_size : Int32) (p1 : Int32) : Nat → Int32 → Option (Int32)
  | 0, _ => none
  | n2 + 1, x2_2 => (if v_t_size ≤ x2_2 then some (0 : Int32) else (if inb x2_2 8 = true then (if (v_t_spots x2_2.toNatClampNeg) = p1 then some (1 : Int32) else (fX3_hasSpot_2 v_t_spots v_t_size p1 n2) (x2_2 + (1 : Int32))) else none))
def fX3_hasSpot (v_t_spots : Nat → Int32) (v_t_size : Int32) (p1 : Int32) : Option (Int32) := fX3_hasSpot_2 v_t_spots v_t_size p1 100000 (0 : Int32)
set_option maxHeartbeats 4000000 in
set_option maxRecDepth 100000 in
theorem mt_X3_hasSpot (E : zE) (l : Launch) (a_t : Nat) (a_t_spots : Nat) (a_t_tones : Nat) (a_t_firsts : Nat) (a_t_lasts : Nat) (a_t_minutes : Nat) (v_t_size : Int32) (v_t_planned : Int32) (v_t_spots : Nat → Int32) (p1 : Int32) (u : Int32) (hf : fX3_hasSpot v_t_spots v_t_size p1 = some u)   : zM E l yX3_hasSpot [.code yX3_hasSpot cX3_hasSpot 3 (some .boolean)] { frames := 0, cells := 0, slots := 0, locals := 0 } [.ref a_t, .int p1] [(a_t, .inr (3, [.ref a_t_spots, .ref a_t_tones, .ref a_t_firsts, .ref a_t_lasts, .ref a_t_minutes, .int v_t_size, .int v_t_planned])), (a_t_spots, .inl (E.2.1, 8, .inl v_t_spots))] (some u) [(a_t, .inr (3, [.ref a_t_spots, .ref a_t_tones, .ref a_t_firsts, .ref a_t_lasts, .ref a_t_minutes, .int v_t_size, .int v_t_planned])), (a_t_spots, .inl (E.2.1, 8, .inl v_t_spots))] := by
  refine zM_int (ty := .boolean) (cc := cX3_hasSpot) (nL := 3) (by decide) (Nat.le_of_ble_eq_true rfl) ?_
  intro p e R s m args below meth c A Q ls hRf hRl hx hb hml hown hK hA hP hD hS hl ret
  have hT := hK.2
  have hown : s.vm.findClass RX3 = some m.cls := hown
  have hl : lv_has ls 3 [(0, .ref a_t), (1, .int p1)] := hl
  have hw3 : ∀ w ∈ u_ws RX3 TX3 7, w.before args s = true := fun w h => hT w (zl_X3 w h) args
  have h := hf
  unfold fX3_hasSpot at h
  refine lv_iconst (pc := 0) (v := (0 : Int32)) hx hb dX3_hasSpot_0 (by decide) ?_
  refine lv_istore_n (pc := 1) (lv' := [(2, .int (0 : Int32)), (0, .ref a_t), (1, .int p1)]) hx hb dX3_hasSpot_1 rfl hl (by decide) rfl (fun ls hl => ?_)
  have J2 : ∀ (n2 : Nat) (x2_2 : Int32) (H : Heap) (locs : List Loc) (ls : Array Slot), fX3_hasSpot_2 v_t_spots v_t_size p1 n2 x2_2 = some u → lv_has ls 3 [(0, .ref a_t), (1, .int p1), (2, .int x2_2)] → va_P E.1 vwCl [(a_t, .inr (3, [.ref a_t_spots, .ref a_t_tones, .ref a_t_firsts, .ref a_t_lasts, .ref a_t_minutes, .int v_t_size, .int v_t_planned])), (a_t_spots, .inl (E.2.1, 8, .inl v_t_spots))] H → va_D A [(a_t, .inr (3, [.ref a_t_spots, .ref a_t_tones, .ref a_t_firsts, .ref a_t_lasts, .ref a_t_minutes, .int v_t_size, .int v_t_planned])), (a_t_spots, .inl (E.2.1, 8, .inl v_t_spots))] → va_S A s.heap H locs → W p l e R s m args below meth c H locs 0 0 Q (F0 m 2 ls []) := by
    intro n2
    induction n2 with
    | zero =>
      intro x2_2 H locs ls h hl hP hD hS
      rw [fX3_hasSpot_2] at h
      cases h
    | succ n2 ih2 =>
      intro x2_2 H locs ls h hl hP hD hS
      rw [fX3_hasSpot_2] at h
      refine lv_iload_n (pc := 2) hx hb dX3_hasSpot_2 rfl (lv_at hl 2 rfl) ?_
      refine lv_aload_n (pc := 3) hx hb dX3_hasSpot_3 rfl (lv_at hl 0 rfl) ?_
      refine va_get (pc := 4) (ci := 3) (C := RX3) (T := TX3) (N := 7) hx hb hw3 (fun _ h9 => h9) hown hK.1 hP 0 rfl rfl 5 (by decide) (hT _ zw71 _) (fun _ h9 => h9) rfl dX3_hasSpot_4 ?_
      refine lv_icmp_ge (pc := 7) (tgt := 28) hx hb dX3_hasSpot_7 (by decide) (fun c1 => ?_) (fun c1 => ?_)
      · have h := r_pos h c1
        refine lv_iconst (pc := 28) (v := (0 : Int32)) hx hb dX3_hasSpot_28 (by decide) ?_
        obtain rfl := Option.some.inj h
        exact ret _ _ 29 _ zb0 dX3_hasSpot_29 hP hD hS
      · have h := r_neg h c1
        refine lv_aload_n (pc := 10) hx hb dX3_hasSpot_10 rfl (lv_at hl 0 rfl) ?_
        refine va_get (pc := 11) (ci := 3) (C := RX3) (T := TX3) (N := 7) hx hb hw3 (fun _ h9 => h9) hown hK.1 hP 0 rfl rfl 0 (by decide) (hT _ zw72 _) (fun _ h9 => h9) rfl dX3_hasSpot_11 ?_
        refine lv_iload_n (pc := 14) hx hb dX3_hasSpot_14 rfl (lv_at hl 2 rfl) ?_
        obtain ⟨hb2, h⟩ := r_in h
        refine va_iald (pc := 15) hx hb hK.1 hP 1 0 rfl rfl hb2 dX3_hasSpot_15 ?_
        refine lv_iload_n (pc := 16) hx hb dX3_hasSpot_16 rfl (lv_at hl 1 rfl) ?_
        refine lv_icmp_ne (pc := 17) (tgt := 22) hx hb dX3_hasSpot_17 (by decide) (fun c3 => ?_) (fun c3 => ?_)
        · have h := r_neg h c3
          refine lv_iinc (pc := 22) (v := (x2_2 + (1 : Int32))) (lv' := [(2, .int (x2_2 + (1 : Int32))), (0, .ref a_t), (1, .int p1)]) hx hb dX3_hasSpot_22 hl (k := 2) rfl rfl (by decide) rfl (fun ls hl => ?_)
          refine lv_goto (pc := 25) (tgt := 2) hx hb dX3_hasSpot_25 (by decide) ?_
          exact ih2 (x2_2 + (1 : Int32)) _ _ _ h (lv_sub hl [1, 2, 0] rfl) hP hD hS
        · have h := r_pos h c3
          refine lv_iconst (pc := 20) (v := (1 : Int32)) hx hb dX3_hasSpot_20 (by decide) ?_
          obtain rfl := Option.some.inj h
          exact ret _ _ 21 _ zb1 dX3_hasSpot_21 hP hD hS
  exact J2 _ (0 : Int32) _ _ _ h (lv_sub hl [1, 2, 0] rfl) hP hD hS
def fX3_addWish (v_t_spots : Nat → Int32) (v_t_tones : Nat → Int32) (v_t_size : Int32) (p1 : Int32) (p2 : Int32) : Option ((Nat → Int32) × (Nat → Int32) × Int32) := (if inb v_t_size 8 = true then some ((upd v_t_spots v_t_size.toNatClampNeg p1), (upd v_t_tones v_t_size.toNatClampNeg p2), (v_t_size + (1 : Int32))) else none)
set_option maxHeartbeats 4000000 in
set_option maxRecDepth 100000 in
theorem mt_X3_addWish (E : zE) (l : Launch) (a_t : Nat) (a_t_spots : Nat) (a_t_tones : Nat) (a_t_firsts : Nat) (a_t_lasts : Nat) (a_t_minutes : Nat) (v_t_size : Int32) (v_t_planned : Int32) (v_t_spots : Nat → Int32) (v_t_tones : Nat → Int32) (p1 : Int32) (p2 : Int32) (u : (Nat → Int32) × (Nat → Int32) × Int32) (hf : fX3_addWish v_t_spots v_t_tones v_t_size p1 p2 = some u)   : zM E l yX3_addWish [.code yX3_addWish cX3_addWish 3 none] { frames := 0, cells := 0, slots := 0, locals := 0 } [.ref a_t, .int p1, .int p2] [(a_t, .inr (3, [.ref a_t_spots, .ref a_t_tones, .ref a_t_firsts, .ref a_t_lasts, .ref a_t_minutes, .int v_t_size, .int v_t_planned])), (a_t_spots, .inl (E.2.1, 8, .inl v_t_spots)), (a_t_tones, .inl (E.2.1, 8, .inl v_t_tones))] (none) [(a_t, .inr (3, [.ref a_t_spots, .ref a_t_tones, .ref a_t_firsts, .ref a_t_lasts, .ref a_t_minutes, .int u.2.2, .int v_t_planned])), (a_t_spots, .inl (E.2.1, 8, .inl u.1)), (a_t_tones, .inl (E.2.1, 8, .inl u.2.1))] := by
  refine zM_void (cc := cX3_addWish) (nL := 3) (by decide) (Nat.le_of_ble_eq_true rfl) ?_
  intro p e R s m args below meth c A Q ls hRf hRl hx hb hml hown hK hA hP hD hS hl ret
  have hT := hK.2
  have hown : s.vm.findClass RX3 = some m.cls := hown
  have hl : lv_has ls 3 [(0, .ref a_t), (1, .int p1), (2, .int p2)] := hl
  have hw3 : ∀ w ∈ u_ws RX3 TX3 7, w.before args s = true := fun w h => hT w (zl_X3 w h) args
  have h := hf
  unfold fX3_addWish at h
  refine lv_aload_n (pc := 0) hx hb dX3_addWish_0 rfl (lv_at hl 0 rfl) ?_
  refine va_get (pc := 1) (ci := 3) (C := RX3) (T := TX3) (N := 7) hx hb hw3 (fun _ h9 => h9) hown hK.1 hP 0 rfl rfl 0 (by decide) (hT _ zw72 _) (fun _ h9 => h9) rfl dX3_addWish_1 ?_
  refine lv_aload_n (pc := 4) hx hb dX3_addWish_4 rfl (lv_at hl 0 rfl) ?_
  refine va_get (pc := 5) (ci := 3) (C := RX3) (T := TX3) (N := 7) hx hb hw3 (fun _ h9 => h9) hown hK.1 hP 0 rfl rfl 5 (by decide) (hT _ zw71 _) (fun _ h9 => h9) rfl dX3_addWish_5 ?_
  refine lv_iload_n (pc := 8) hx hb dX3_addWish_8 rfl (lv_at hl 1 rfl) ?_
  obtain ⟨hb1, h⟩ := r_in h
  refine va_iast (pc := 9) hx hb hK.1 hP hD hS 1 0 rfl rfl hb1 dX3_addWish_9 (fun H locs hP hD hS => ?_)
  have hP : va_P E.1 vwCl [(a_t, .inr (3, [.ref a_t_spots, .ref a_t_tones, .ref a_t_firsts, .ref a_t_lasts, .ref a_t_minutes, .int v_t_size, .int v_t_planned])), (a_t_spots, .inl (E.2.1, 8, .inl (upd v_t_spots v_t_size.toNatClampNeg p1))), (a_t_tones, .inl (E.2.1, 8, .inl v_t_tones))] H := hP
  have hD : va_D A [(a_t, .inr (3, [.ref a_t_spots, .ref a_t_tones, .ref a_t_firsts, .ref a_t_lasts, .ref a_t_minutes, .int v_t_size, .int v_t_planned])), (a_t_spots, .inl (E.2.1, 8, .inl (upd v_t_spots v_t_size.toNatClampNeg p1))), (a_t_tones, .inl (E.2.1, 8, .inl v_t_tones))] := hD
  refine lv_aload_n (pc := 10) hx hb dX3_addWish_10 rfl (lv_at hl 0 rfl) ?_
  refine va_get (pc := 11) (ci := 3) (C := RX3) (T := TX3) (N := 7) hx hb hw3 (fun _ h9 => h9) hown hK.1 hP 0 rfl rfl 1 (by decide) (hT _ zw73 _) (fun _ h9 => h9) rfl dX3_addWish_11 ?_
  refine lv_aload_n (pc := 14) hx hb dX3_addWish_14 rfl (lv_at hl 0 rfl) ?_
  refine va_get (pc := 15) (ci := 3) (C := RX3) (T := TX3) (N := 7) hx hb hw3 (fun _ h9 => h9) hown hK.1 hP 0 rfl rfl 5 (by decide) (hT _ zw71 _) (fun _ h9 => h9) rfl dX3_addWish_15 ?_
  refine lv_iload_n (pc := 18) hx hb dX3_addWish_18 rfl (lv_at hl 2 rfl) ?_
  refine va_iast (pc := 19) hx hb hK.1 hP hD hS 2 0 rfl rfl hb1 dX3_addWish_19 (fun H locs hP hD hS => ?_)
  have hP : va_P E.1 vwCl [(a_t, .inr (3, [.ref a_t_spots, .ref a_t_tones, .ref a_t_firsts, .ref a_t_lasts, .ref a_t_minutes, .int v_t_size, .int v_t_planned])), (a_t_spots, .inl (E.2.1, 8, .inl (upd v_t_spots v_t_size.toNatClampNeg p1))), (a_t_tones, .inl (E.2.1, 8, .inl (upd v_t_tones v_t_size.toNatClampNeg p2)))] H := hP
  have hD : va_D A [(a_t, .inr (3, [.ref a_t_spots, .ref a_t_tones, .ref a_t_firsts, .ref a_t_lasts, .ref a_t_minutes, .int v_t_size, .int v_t_planned])), (a_t_spots, .inl (E.2.1, 8, .inl (upd v_t_spots v_t_size.toNatClampNeg p1))), (a_t_tones, .inl (E.2.1, 8, .inl (upd v_t_tones v_t_size.toNatClampNeg p2)))] := hD
  refine lv_aload_n (pc := 20) hx hb dX3_addWish_20 rfl (lv_at hl 0 rfl) ?_
  refine lv_dup (pc := 21) hx hb dX3_addWish_21 rfl ?_
  refine va_get (pc := 22) (ci := 3) (C := RX3) (T := TX3) (N := 7) hx hb hw3 (fun _ h9 => h9) hown hK.1 hP 0 rfl rfl 5 (by decide) (hT _ zw71 _) (fun _ h9 => h9) rfl dX3_addWish_22 ?_
  refine lv_iconst (pc := 25) (v := (1 : Int32)) hx hb dX3_addWish_25 (by decide) ?_
  refine lv_iadd (pc := 26) hx hb dX3_addWish_26 ?_
  refine va_put (pc := 27) (ci := 3) (v := .int (v_t_size + (1 : Int32))) (ty := .int) (C := RX3) (T := TX3) (N := 7) hx hb hw3 (fun _ h9 => h9) tyX3 tyX3_ok nmX3 hown hK.1 hP hD hS 0 rfl rfl 5 (by decide) (hT _ zw71 _) (fun _ h9 => h9) rfl (tyX3_ok 5 (by decide)) rfl rfl (Nat.le_of_ble_eq_true rfl) dX3_addWish_27 (fun H locs hP hD hS => ?_)
  have hP : va_P E.1 vwCl [(a_t, .inr (3, [.ref a_t_spots, .ref a_t_tones, .ref a_t_firsts, .ref a_t_lasts, .ref a_t_minutes, .int (v_t_size + (1 : Int32)), .int v_t_planned])), (a_t_spots, .inl (E.2.1, 8, .inl (upd v_t_spots v_t_size.toNatClampNeg p1))), (a_t_tones, .inl (E.2.1, 8, .inl (upd v_t_tones v_t_size.toNatClampNeg p2)))] H := hP
  have hD : va_D A [(a_t, .inr (3, [.ref a_t_spots, .ref a_t_tones, .ref a_t_firsts, .ref a_t_lasts, .ref a_t_minutes, .int (v_t_size + (1 : Int32)), .int v_t_planned])), (a_t_spots, .inl (E.2.1, 8, .inl (upd v_t_spots v_t_size.toNatClampNeg p1))), (a_t_tones, .inl (E.2.1, 8, .inl (upd v_t_tones v_t_size.toNatClampNeg p2)))] := hD
  obtain rfl := Option.some.inj h
  exact ret _ _ 30 _ dX3_addWish_30 hP hD hS
def fX3_findSpans_85 (x2_3 : Int32) (y2_t_firsts : Nat → Int32) (y2_t_lasts : Nat → Int32) (u3 : Int32) (u5 : Int32) : Option (Int32 × (Nat → Int32) × (Nat → Int32)) := some ((0 : Int32), (upd y2_t_firsts x2_3.toNatClampNeg u3), (upd y2_t_lasts x2_3.toNatClampNeg u5))
def fX3_findSpans_2 (v_t_spots : Nat → Int32) (v_t_tones : Nat → Int32) (v_t_size : Int32) (v_o1_kinds : Nat → Int32) (v_o1_depths : Nat → Int32) (v_o1_lives : Nat → Int32) (v_o1_stops : Nat → Int32) (p2 : Int32) : Nat → Int32 → (Nat → Int32) → (Nat → Int32) → Option (Int32 × (Nat → Int32) × (Nat → Int32))
  | 0, _, _, _ => none
  | n2 + 1, x2_3, y2_t_firsts, y2_t_lasts => (if v_t_size ≤ x2_3 then some ((1 : Int32), y2_t_firsts, y2_t_lasts) else (if inb x2_3 8 = true then ((fX1_firstMinute v_o1_kinds v_o1_depths v_o1_lives (v_t_spots x2_3.toNatClampNeg) (v_t_tones x2_3.toNatClampNeg) p2).bind fun u3 => ((fX1_lastMinute v_o1_kinds v_o1_depths v_o1_lives (v_t_spots x2_3.toNatClampNeg) (v_t_tones x2_3.toNatClampNeg) p2).bind fun u5 => (if inb (v_t_spots x2_3.toNatClampNeg) 108 = true then (if (v_o1_stops (v_t_spots x2_3.toNatClampNeg).toNatClampNeg) = 0 then (if ((upd y2_t_firsts x2_3.toNatClampNeg u3) x2_3.toNatClampNeg) ≤ ((upd y2_t_lasts x2_3.toNatClampNeg u5) x2_3.toNatClampNeg) then (fX3_findSpans_2 v_t_spots v_t_tones v_t_size v_o1_kinds v_o1_depths v_o1_lives v_o1_stops p2 n2) (x2_3 + (1 : Int32)) (upd y2_t_firsts x2_3.toNatClampNeg u3) (upd y2_t_lasts x2_3.toNatClampNeg u5) else fX3_findSpans_85 x2_3 y2_t_firsts y2_t_lasts u3 u5) else fX3_findSpans_85 x2_3 y2_t_firsts y2_t_lasts u3 u5) else none))) else none))
def fX3_findSpans (v_t_spots : Nat → Int32) (v_t_tones : Nat → Int32) (v_t_firsts : Nat → Int32) (v_t_lasts : Nat → Int32) (v_t_size : Int32) (v_o1_kinds : Nat → Int32) (v_o1_depths : Nat → Int32) (v_o1_lives : Nat → Int32) (v_o1_stops : Nat → Int32) (p2 : Int32) : Option (Int32 × (Nat → Int32) × (Nat → Int32)) := fX3_findSpans_2 v_t_spots v_t_tones v_t_size v_o1_kinds v_o1_depths v_o1_lives v_o1_stops p2 100000 (0 : Int32) v_t_firsts v_t_lasts
set_option maxHeartbeats 4000000 in
set_option maxRecDepth 100000 in
theorem mt_X3_findSpans (E : zE) (l : Launch) (a_t : Nat) (a_t_spots : Nat) (a_t_tones : Nat) (a_t_firsts : Nat) (a_t_lasts : Nat) (a_t_minutes : Nat) (a_o1 : Nat) (a_o1_kinds : Nat) (a_o1_depths : Nat) (a_o1_lives : Nat) (a_o1_stops : Nat) (v_t_size : Int32) (v_t_planned : Int32) (v_t_spots : Nat → Int32) (v_t_tones : Nat → Int32) (v_t_firsts : Nat → Int32) (v_t_lasts : Nat → Int32) (v_o1_kinds : Nat → Int32) (v_o1_depths : Nat → Int32) (v_o1_lives : Nat → Int32) (v_o1_stops : Nat → Int32) (p2 : Int32) (u : Int32 × (Nat → Int32) × (Nat → Int32)) (hf : fX3_findSpans v_t_spots v_t_tones v_t_firsts v_t_lasts v_t_size v_o1_kinds v_o1_depths v_o1_lives v_o1_stops p2 = some u)   : zM E l yX3_findSpans [.code yX3_findSpans cX3_findSpans 4 (some .boolean)] { frames := 4, cells := 0, slots := 0, locals := 84 } [.ref a_t, .ref a_o1, .int p2] [(a_t, .inr (3, [.ref a_t_spots, .ref a_t_tones, .ref a_t_firsts, .ref a_t_lasts, .ref a_t_minutes, .int v_t_size, .int v_t_planned])), (a_t_spots, .inl (E.2.1, 8, .inl v_t_spots)), (a_t_tones, .inl (E.2.1, 8, .inl v_t_tones)), (a_t_firsts, .inl (E.2.1, 8, .inl v_t_firsts)), (a_t_lasts, .inl (E.2.1, 8, .inl v_t_lasts)), (a_o1, .inr (1, [.ref a_o1_kinds, .ref a_o1_depths, .ref a_o1_lives, .ref a_o1_stops])), (a_o1_kinds, .inl (E.2.1, 108, .inl v_o1_kinds)), (a_o1_depths, .inl (E.2.1, 108, .inl v_o1_depths)), (a_o1_lives, .inl (E.2.1, 108, .inl v_o1_lives)), (a_o1_stops, .inl (E.2.2.1, 108, .inl v_o1_stops))] (some u.1) [(a_t, .inr (3, [.ref a_t_spots, .ref a_t_tones, .ref a_t_firsts, .ref a_t_lasts, .ref a_t_minutes, .int v_t_size, .int v_t_planned])), (a_t_spots, .inl (E.2.1, 8, .inl v_t_spots)), (a_t_tones, .inl (E.2.1, 8, .inl v_t_tones)), (a_t_firsts, .inl (E.2.1, 8, .inl u.2.1)), (a_t_lasts, .inl (E.2.1, 8, .inl u.2.2)), (a_o1, .inr (1, [.ref a_o1_kinds, .ref a_o1_depths, .ref a_o1_lives, .ref a_o1_stops])), (a_o1_kinds, .inl (E.2.1, 108, .inl v_o1_kinds)), (a_o1_depths, .inl (E.2.1, 108, .inl v_o1_depths)), (a_o1_lives, .inl (E.2.1, 108, .inl v_o1_lives)), (a_o1_stops, .inl (E.2.2.1, 108, .inl v_o1_stops))] := by
  refine zM_int (ty := .boolean) (cc := cX3_findSpans) (nL := 4) (by decide) (Nat.le_of_ble_eq_true rfl) ?_
  intro p e R s m args below meth c A Q ls hRf hRl hx hb hml hown hK hA hP hD hS hl ret
  have hT := hK.2
  have hown : s.vm.findClass RX3 = some m.cls := hown
  have hl : lv_has ls 4 [(0, .ref a_t), (1, .ref a_o1), (2, .int p2)] := hl
  have hw3 : ∀ w ∈ u_ws RX3 TX3 7, w.before args s = true := fun w h => hT w (zl_X3 w h) args
  have hw1 : ∀ w ∈ u_ws RX1 TX1 4, w.before args s = true := fun w h => hT w (zl_X1 w h) args
  have h := hf
  unfold fX3_findSpans at h
  refine lv_iconst (pc := 0) (v := (0 : Int32)) hx hb dX3_findSpans_0 (by decide) ?_
  refine lv_istore_n (pc := 1) (lv' := [(3, .int (0 : Int32)), (0, .ref a_t), (1, .ref a_o1), (2, .int p2)]) hx hb dX3_findSpans_1 rfl hl (by decide) rfl (fun ls hl => ?_)
  have J2 : ∀ (n2 : Nat) (x2_3 : Int32) (y2_t_firsts : Nat → Int32) (y2_t_lasts : Nat → Int32) (H : Heap) (locs : List Loc) (ls : Array Slot), fX3_findSpans_2 v_t_spots v_t_tones v_t_size v_o1_kinds v_o1_depths v_o1_lives v_o1_stops p2 n2 x2_3 y2_t_firsts y2_t_lasts = some u → lv_has ls 4 [(0, .ref a_t), (1, .ref a_o1), (2, .int p2), (3, .int x2_3)] → va_P E.1 vwCl [(a_t, .inr (3, [.ref a_t_spots, .ref a_t_tones, .ref a_t_firsts, .ref a_t_lasts, .ref a_t_minutes, .int v_t_size, .int v_t_planned])), (a_t_spots, .inl (E.2.1, 8, .inl v_t_spots)), (a_t_tones, .inl (E.2.1, 8, .inl v_t_tones)), (a_t_firsts, .inl (E.2.1, 8, .inl y2_t_firsts)), (a_t_lasts, .inl (E.2.1, 8, .inl y2_t_lasts)), (a_o1, .inr (1, [.ref a_o1_kinds, .ref a_o1_depths, .ref a_o1_lives, .ref a_o1_stops])), (a_o1_kinds, .inl (E.2.1, 108, .inl v_o1_kinds)), (a_o1_depths, .inl (E.2.1, 108, .inl v_o1_depths)), (a_o1_lives, .inl (E.2.1, 108, .inl v_o1_lives)), (a_o1_stops, .inl (E.2.2.1, 108, .inl v_o1_stops))] H → va_D A [(a_t, .inr (3, [.ref a_t_spots, .ref a_t_tones, .ref a_t_firsts, .ref a_t_lasts, .ref a_t_minutes, .int v_t_size, .int v_t_planned])), (a_t_spots, .inl (E.2.1, 8, .inl v_t_spots)), (a_t_tones, .inl (E.2.1, 8, .inl v_t_tones)), (a_t_firsts, .inl (E.2.1, 8, .inl y2_t_firsts)), (a_t_lasts, .inl (E.2.1, 8, .inl y2_t_lasts)), (a_o1, .inr (1, [.ref a_o1_kinds, .ref a_o1_depths, .ref a_o1_lives, .ref a_o1_stops])), (a_o1_kinds, .inl (E.2.1, 108, .inl v_o1_kinds)), (a_o1_depths, .inl (E.2.1, 108, .inl v_o1_depths)), (a_o1_lives, .inl (E.2.1, 108, .inl v_o1_lives)), (a_o1_stops, .inl (E.2.2.1, 108, .inl v_o1_stops))] → va_S A s.heap H locs → W p l e R s m args below meth c H locs 0 0 Q (F0 m 2 ls []) := by
    intro n2
    induction n2 with
    | zero =>
      intro x2_3 y2_t_firsts y2_t_lasts H locs ls h hl hP hD hS
      rw [fX3_findSpans_2] at h
      cases h
    | succ n2 ih2 =>
      intro x2_3 y2_t_firsts y2_t_lasts H locs ls h hl hP hD hS
      rw [fX3_findSpans_2] at h
      refine lv_iload_n (pc := 2) hx hb dX3_findSpans_2 rfl (lv_at hl 3 rfl) ?_
      refine lv_aload_n (pc := 3) hx hb dX3_findSpans_3 rfl (lv_at hl 0 rfl) ?_
      refine va_get (pc := 4) (ci := 3) (C := RX3) (T := TX3) (N := 7) hx hb hw3 (fun _ h9 => h9) hown hK.1 hP 0 rfl rfl 5 (by decide) (hT _ zw71 _) (fun _ h9 => h9) rfl dX3_findSpans_4 ?_
      refine lv_icmp_ge (pc := 7) (tgt := 93) hx hb dX3_findSpans_7 (by decide) (fun c1 => ?_) (fun c1 => ?_)
      · have h := r_pos h c1
        refine lv_iconst (pc := 93) (v := (1 : Int32)) hx hb dX3_findSpans_93 (by decide) ?_
        obtain rfl := Option.some.inj h
        exact ret _ _ 94 _ zb1 dX3_findSpans_94 hP hD hS
      · have h := r_neg h c1
        refine lv_aload_n (pc := 10) hx hb dX3_findSpans_10 rfl (lv_at hl 0 rfl) ?_
        refine va_get (pc := 11) (ci := 3) (C := RX3) (T := TX3) (N := 7) hx hb hw3 (fun _ h9 => h9) hown hK.1 hP 0 rfl rfl 2 (by decide) (hT _ zw74 _) (fun _ h9 => h9) rfl dX3_findSpans_11 ?_
        refine lv_iload_n (pc := 14) hx hb dX3_findSpans_14 rfl (lv_at hl 3 rfl) ?_
        refine lv_aload_n (pc := 15) hx hb dX3_findSpans_15 rfl (lv_at hl 1 rfl) ?_
        refine lv_aload_n (pc := 16) hx hb dX3_findSpans_16 rfl (lv_at hl 0 rfl) ?_
        refine va_get (pc := 17) (ci := 3) (C := RX3) (T := TX3) (N := 7) hx hb hw3 (fun _ h9 => h9) hown hK.1 hP 0 rfl rfl 0 (by decide) (hT _ zw72 _) (fun _ h9 => h9) rfl dX3_findSpans_17 ?_
        refine lv_iload_n (pc := 20) hx hb dX3_findSpans_20 rfl (lv_at hl 3 rfl) ?_
        obtain ⟨hb2, h⟩ := r_in h
        refine va_iald (pc := 21) hx hb hK.1 hP 1 0 rfl rfl hb2 dX3_findSpans_21 ?_
        refine lv_aload_n (pc := 22) hx hb dX3_findSpans_22 rfl (lv_at hl 0 rfl) ?_
        refine va_get (pc := 23) (ci := 3) (C := RX3) (T := TX3) (N := 7) hx hb hw3 (fun _ h9 => h9) hown hK.1 hP 0 rfl rfl 1 (by decide) (hT _ zw73 _) (fun _ h9 => h9) rfl dX3_findSpans_23 ?_
        refine lv_iload_n (pc := 26) hx hb dX3_findSpans_26 rfl (lv_at hl 3 rfl) ?_
        refine va_iald (pc := 27) hx hb hK.1 hP 2 0 rfl rfl hb2 dX3_findSpans_27 ?_
        refine lv_iload_n (pc := 28) hx hb dX3_findSpans_28 rfl (lv_at hl 2 rfl) ?_
        obtain ⟨u3, hg4, h⟩ := r_bind h
        refine z_callV (pc := 29) (n := 3) (o := some u3) (As := [.int (v_t_spots x2_3.toNatClampNeg), .int (v_t_tones x2_3.toNatClampNeg), .int p2]) (rest := [.int x2_3, .ref a_t_firsts]) (ci := 1) (q0 := 0) (wc := [(a_o1, .inr (1, [.ref a_o1_kinds, .ref a_o1_depths, .ref a_o1_lives, .ref a_o1_stops])), (a_o1_kinds, .inl (E.2.1, 108, .inl v_o1_kinds)), (a_o1_depths, .inl (E.2.1, 108, .inl v_o1_depths)), (a_o1_lives, .inl (E.2.1, 108, .inl v_o1_lives))]) (wc' := [(a_o1, .inr (1, [.ref a_o1_kinds, .ref a_o1_depths, .ref a_o1_lives, .ref a_o1_stops])), (a_o1_kinds, .inl (E.2.1, 108, .inl v_o1_kinds)), (a_o1_depths, .inl (E.2.1, 108, .inl v_o1_depths)), (a_o1_lives, .inl (E.2.1, 108, .inl v_o1_lives))]) (wr := [(a_t, .inr (3, [.ref a_t_spots, .ref a_t_tones, .ref a_t_firsts, .ref a_t_lasts, .ref a_t_minutes, .int v_t_size, .int v_t_planned])), (a_t_spots, .inl (E.2.1, 8, .inl v_t_spots)), (a_t_tones, .inl (E.2.1, 8, .inl v_t_tones)), (a_t_firsts, .inl (E.2.1, 8, .inl y2_t_firsts)), (a_t_lasts, .inl (E.2.1, 8, .inl y2_t_lasts)), (a_o1_stops, .inl (E.2.2.1, 108, .inl v_o1_stops))]) hx hb hml hown hK hA hP hD hS hl.1 ⟨Nat.zero_le _, Nat.zero_le _⟩ (mt_X1_firstMinute E l a_o1 a_o1_kinds a_o1_depths a_o1_lives a_o1_stops v_o1_kinds v_o1_depths v_o1_lives (v_t_spots x2_3.toNatClampNeg) (v_t_tones x2_3.toNatClampNeg) p2 u3 hg4) zw75 zw76 zw77 zw31 zw78 (by decide +kernel) rfl ⟨rfl, rfl, Nat.le_trans (Nat.le_of_ble_eq_true rfl) hRf, Nat.le_trans (Nat.le_of_ble_eq_true rfl) hRl⟩ [5, 6, 7, 8] [0, 1, 2, 3, 4, 9] (by decide) rfl rfl (by decide) (by decide) rfl rfl rfl (Nat.le_of_ble_eq_true rfl) dX3_findSpans_29 (fun H locs hP hD hS => ?_)
        have hP : va_P E.1 vwCl [(a_t, .inr (3, [.ref a_t_spots, .ref a_t_tones, .ref a_t_firsts, .ref a_t_lasts, .ref a_t_minutes, .int v_t_size, .int v_t_planned])), (a_t_spots, .inl (E.2.1, 8, .inl v_t_spots)), (a_t_tones, .inl (E.2.1, 8, .inl v_t_tones)), (a_t_firsts, .inl (E.2.1, 8, .inl y2_t_firsts)), (a_t_lasts, .inl (E.2.1, 8, .inl y2_t_lasts)), (a_o1_stops, .inl (E.2.2.1, 108, .inl v_o1_stops)), (a_o1, .inr (1, [.ref a_o1_kinds, .ref a_o1_depths, .ref a_o1_lives, .ref a_o1_stops])), (a_o1_kinds, .inl (E.2.1, 108, .inl v_o1_kinds)), (a_o1_depths, .inl (E.2.1, 108, .inl v_o1_depths)), (a_o1_lives, .inl (E.2.1, 108, .inl v_o1_lives))] H := hP
        have hD : va_D A [(a_t, .inr (3, [.ref a_t_spots, .ref a_t_tones, .ref a_t_firsts, .ref a_t_lasts, .ref a_t_minutes, .int v_t_size, .int v_t_planned])), (a_t_spots, .inl (E.2.1, 8, .inl v_t_spots)), (a_t_tones, .inl (E.2.1, 8, .inl v_t_tones)), (a_t_firsts, .inl (E.2.1, 8, .inl y2_t_firsts)), (a_t_lasts, .inl (E.2.1, 8, .inl y2_t_lasts)), (a_o1_stops, .inl (E.2.2.1, 108, .inl v_o1_stops)), (a_o1, .inr (1, [.ref a_o1_kinds, .ref a_o1_depths, .ref a_o1_lives, .ref a_o1_stops])), (a_o1_kinds, .inl (E.2.1, 108, .inl v_o1_kinds)), (a_o1_depths, .inl (E.2.1, 108, .inl v_o1_depths)), (a_o1_lives, .inl (E.2.1, 108, .inl v_o1_lives))] := hD
        refine va_iast (pc := 32) hx hb hK.1 hP hD hS 3 0 rfl rfl hb2 dX3_findSpans_32 (fun H locs hP hD hS => ?_)
        have hP : va_P E.1 vwCl [(a_t, .inr (3, [.ref a_t_spots, .ref a_t_tones, .ref a_t_firsts, .ref a_t_lasts, .ref a_t_minutes, .int v_t_size, .int v_t_planned])), (a_t_spots, .inl (E.2.1, 8, .inl v_t_spots)), (a_t_tones, .inl (E.2.1, 8, .inl v_t_tones)), (a_t_firsts, .inl (E.2.1, 8, .inl (upd y2_t_firsts x2_3.toNatClampNeg u3))), (a_t_lasts, .inl (E.2.1, 8, .inl y2_t_lasts)), (a_o1_stops, .inl (E.2.2.1, 108, .inl v_o1_stops)), (a_o1, .inr (1, [.ref a_o1_kinds, .ref a_o1_depths, .ref a_o1_lives, .ref a_o1_stops])), (a_o1_kinds, .inl (E.2.1, 108, .inl v_o1_kinds)), (a_o1_depths, .inl (E.2.1, 108, .inl v_o1_depths)), (a_o1_lives, .inl (E.2.1, 108, .inl v_o1_lives))] H := hP
        have hD : va_D A [(a_t, .inr (3, [.ref a_t_spots, .ref a_t_tones, .ref a_t_firsts, .ref a_t_lasts, .ref a_t_minutes, .int v_t_size, .int v_t_planned])), (a_t_spots, .inl (E.2.1, 8, .inl v_t_spots)), (a_t_tones, .inl (E.2.1, 8, .inl v_t_tones)), (a_t_firsts, .inl (E.2.1, 8, .inl (upd y2_t_firsts x2_3.toNatClampNeg u3))), (a_t_lasts, .inl (E.2.1, 8, .inl y2_t_lasts)), (a_o1_stops, .inl (E.2.2.1, 108, .inl v_o1_stops)), (a_o1, .inr (1, [.ref a_o1_kinds, .ref a_o1_depths, .ref a_o1_lives, .ref a_o1_stops])), (a_o1_kinds, .inl (E.2.1, 108, .inl v_o1_kinds)), (a_o1_depths, .inl (E.2.1, 108, .inl v_o1_depths)), (a_o1_lives, .inl (E.2.1, 108, .inl v_o1_lives))] := hD
        refine lv_aload_n (pc := 33) hx hb dX3_findSpans_33 rfl (lv_at hl 0 rfl) ?_
        refine va_get (pc := 34) (ci := 3) (C := RX3) (T := TX3) (N := 7) hx hb hw3 (fun _ h9 => h9) hown hK.1 hP 0 rfl rfl 3 (by decide) (hT _ zw79 _) (fun _ h9 => h9) rfl dX3_findSpans_34 ?_
        refine lv_iload_n (pc := 37) hx hb dX3_findSpans_37 rfl (lv_at hl 3 rfl) ?_
        refine lv_aload_n (pc := 38) hx hb dX3_findSpans_38 rfl (lv_at hl 1 rfl) ?_
        refine lv_aload_n (pc := 39) hx hb dX3_findSpans_39 rfl (lv_at hl 0 rfl) ?_
        refine va_get (pc := 40) (ci := 3) (C := RX3) (T := TX3) (N := 7) hx hb hw3 (fun _ h9 => h9) hown hK.1 hP 0 rfl rfl 0 (by decide) (hT _ zw72 _) (fun _ h9 => h9) rfl dX3_findSpans_40 ?_
        refine lv_iload_n (pc := 43) hx hb dX3_findSpans_43 rfl (lv_at hl 3 rfl) ?_
        refine va_iald (pc := 44) hx hb hK.1 hP 1 0 rfl rfl hb2 dX3_findSpans_44 ?_
        refine lv_aload_n (pc := 45) hx hb dX3_findSpans_45 rfl (lv_at hl 0 rfl) ?_
        refine va_get (pc := 46) (ci := 3) (C := RX3) (T := TX3) (N := 7) hx hb hw3 (fun _ h9 => h9) hown hK.1 hP 0 rfl rfl 1 (by decide) (hT _ zw73 _) (fun _ h9 => h9) rfl dX3_findSpans_46 ?_
        refine lv_iload_n (pc := 49) hx hb dX3_findSpans_49 rfl (lv_at hl 3 rfl) ?_
        refine va_iald (pc := 50) hx hb hK.1 hP 2 0 rfl rfl hb2 dX3_findSpans_50 ?_
        refine lv_iload_n (pc := 51) hx hb dX3_findSpans_51 rfl (lv_at hl 2 rfl) ?_
        obtain ⟨u5, hg6, h⟩ := r_bind h
        refine z_callV (pc := 52) (n := 3) (o := some u5) (As := [.int (v_t_spots x2_3.toNatClampNeg), .int (v_t_tones x2_3.toNatClampNeg), .int p2]) (rest := [.int x2_3, .ref a_t_lasts]) (ci := 1) (q0 := 0) (wc := [(a_o1, .inr (1, [.ref a_o1_kinds, .ref a_o1_depths, .ref a_o1_lives, .ref a_o1_stops])), (a_o1_kinds, .inl (E.2.1, 108, .inl v_o1_kinds)), (a_o1_depths, .inl (E.2.1, 108, .inl v_o1_depths)), (a_o1_lives, .inl (E.2.1, 108, .inl v_o1_lives))]) (wc' := [(a_o1, .inr (1, [.ref a_o1_kinds, .ref a_o1_depths, .ref a_o1_lives, .ref a_o1_stops])), (a_o1_kinds, .inl (E.2.1, 108, .inl v_o1_kinds)), (a_o1_depths, .inl (E.2.1, 108, .inl v_o1_depths)), (a_o1_lives, .inl (E.2.1, 108, .inl v_o1_lives))]) (wr := [(a_t, .inr (3, [.ref a_t_spots, .ref a_t_tones, .ref a_t_firsts, .ref a_t_lasts, .ref a_t_minutes, .int v_t_size, .int v_t_planned])), (a_t_spots, .inl (E.2.1, 8, .inl v_t_spots)), (a_t_tones, .inl (E.2.1, 8, .inl v_t_tones)), (a_t_firsts, .inl (E.2.1, 8, .inl (upd y2_t_firsts x2_3.toNatClampNeg u3))), (a_t_lasts, .inl (E.2.1, 8, .inl y2_t_lasts)), (a_o1_stops, .inl (E.2.2.1, 108, .inl v_o1_stops))]) hx hb hml hown hK hA hP hD hS hl.1 ⟨Nat.zero_le _, Nat.zero_le _⟩ (mt_X1_lastMinute E l a_o1 a_o1_kinds a_o1_depths a_o1_lives a_o1_stops v_o1_kinds v_o1_depths v_o1_lives (v_t_spots x2_3.toNatClampNeg) (v_t_tones x2_3.toNatClampNeg) p2 u5 hg6) zw80 zw81 zw82 zw31 zw83 (by decide +kernel) rfl ⟨rfl, rfl, Nat.le_trans (Nat.le_of_ble_eq_true rfl) hRf, Nat.le_trans (Nat.le_of_ble_eq_true rfl) hRl⟩ [6, 7, 8, 9] [0, 1, 2, 3, 4, 5] (by decide) rfl rfl (by decide) (by decide) rfl rfl rfl (Nat.le_of_ble_eq_true rfl) dX3_findSpans_52 (fun H locs hP hD hS => ?_)
        have hP : va_P E.1 vwCl [(a_t, .inr (3, [.ref a_t_spots, .ref a_t_tones, .ref a_t_firsts, .ref a_t_lasts, .ref a_t_minutes, .int v_t_size, .int v_t_planned])), (a_t_spots, .inl (E.2.1, 8, .inl v_t_spots)), (a_t_tones, .inl (E.2.1, 8, .inl v_t_tones)), (a_t_firsts, .inl (E.2.1, 8, .inl (upd y2_t_firsts x2_3.toNatClampNeg u3))), (a_t_lasts, .inl (E.2.1, 8, .inl y2_t_lasts)), (a_o1_stops, .inl (E.2.2.1, 108, .inl v_o1_stops)), (a_o1, .inr (1, [.ref a_o1_kinds, .ref a_o1_depths, .ref a_o1_lives, .ref a_o1_stops])), (a_o1_kinds, .inl (E.2.1, 108, .inl v_o1_kinds)), (a_o1_depths, .inl (E.2.1, 108, .inl v_o1_depths)), (a_o1_lives, .inl (E.2.1, 108, .inl v_o1_lives))] H := hP
        have hD : va_D A [(a_t, .inr (3, [.ref a_t_spots, .ref a_t_tones, .ref a_t_firsts, .ref a_t_lasts, .ref a_t_minutes, .int v_t_size, .int v_t_planned])), (a_t_spots, .inl (E.2.1, 8, .inl v_t_spots)), (a_t_tones, .inl (E.2.1, 8, .inl v_t_tones)), (a_t_firsts, .inl (E.2.1, 8, .inl (upd y2_t_firsts x2_3.toNatClampNeg u3))), (a_t_lasts, .inl (E.2.1, 8, .inl y2_t_lasts)), (a_o1_stops, .inl (E.2.2.1, 108, .inl v_o1_stops)), (a_o1, .inr (1, [.ref a_o1_kinds, .ref a_o1_depths, .ref a_o1_lives, .ref a_o1_stops])), (a_o1_kinds, .inl (E.2.1, 108, .inl v_o1_kinds)), (a_o1_depths, .inl (E.2.1, 108, .inl v_o1_depths)), (a_o1_lives, .inl (E.2.1, 108, .inl v_o1_lives))] := hD
        refine va_iast (pc := 55) hx hb hK.1 hP hD hS 4 0 rfl rfl hb2 dX3_findSpans_55 (fun H locs hP hD hS => ?_)
        have hP : va_P E.1 vwCl [(a_t, .inr (3, [.ref a_t_spots, .ref a_t_tones, .ref a_t_firsts, .ref a_t_lasts, .ref a_t_minutes, .int v_t_size, .int v_t_planned])), (a_t_spots, .inl (E.2.1, 8, .inl v_t_spots)), (a_t_tones, .inl (E.2.1, 8, .inl v_t_tones)), (a_t_firsts, .inl (E.2.1, 8, .inl (upd y2_t_firsts x2_3.toNatClampNeg u3))), (a_t_lasts, .inl (E.2.1, 8, .inl (upd y2_t_lasts x2_3.toNatClampNeg u5))), (a_o1_stops, .inl (E.2.2.1, 108, .inl v_o1_stops)), (a_o1, .inr (1, [.ref a_o1_kinds, .ref a_o1_depths, .ref a_o1_lives, .ref a_o1_stops])), (a_o1_kinds, .inl (E.2.1, 108, .inl v_o1_kinds)), (a_o1_depths, .inl (E.2.1, 108, .inl v_o1_depths)), (a_o1_lives, .inl (E.2.1, 108, .inl v_o1_lives))] H := hP
        have hD : va_D A [(a_t, .inr (3, [.ref a_t_spots, .ref a_t_tones, .ref a_t_firsts, .ref a_t_lasts, .ref a_t_minutes, .int v_t_size, .int v_t_planned])), (a_t_spots, .inl (E.2.1, 8, .inl v_t_spots)), (a_t_tones, .inl (E.2.1, 8, .inl v_t_tones)), (a_t_firsts, .inl (E.2.1, 8, .inl (upd y2_t_firsts x2_3.toNatClampNeg u3))), (a_t_lasts, .inl (E.2.1, 8, .inl (upd y2_t_lasts x2_3.toNatClampNeg u5))), (a_o1_stops, .inl (E.2.2.1, 108, .inl v_o1_stops)), (a_o1, .inr (1, [.ref a_o1_kinds, .ref a_o1_depths, .ref a_o1_lives, .ref a_o1_stops])), (a_o1_kinds, .inl (E.2.1, 108, .inl v_o1_kinds)), (a_o1_depths, .inl (E.2.1, 108, .inl v_o1_depths)), (a_o1_lives, .inl (E.2.1, 108, .inl v_o1_lives))] := hD
        refine lv_aload_n (pc := 56) hx hb dX3_findSpans_56 rfl (lv_at hl 1 rfl) ?_
        refine va_getN (pc := 57) (ci := 1) (C := RX1) (T := TX1) (N := 4) hx hb hw1 (fun _ h9 => h9) hown hK.1 hP 6 rfl rfl 3 (by decide) (hT _ zw84 _) (fun _ h9 => h9) rfl dX3_findSpans_57 ?_
        refine lv_aload_n (pc := 60) hx hb dX3_findSpans_60 rfl (lv_at hl 0 rfl) ?_
        refine va_get (pc := 61) (ci := 3) (C := RX3) (T := TX3) (N := 7) hx hb hw3 (fun _ h9 => h9) hown hK.1 hP 0 rfl rfl 0 (by decide) (hT _ zw72 _) (fun _ h9 => h9) rfl dX3_findSpans_61 ?_
        refine lv_iload_n (pc := 64) hx hb dX3_findSpans_64 rfl (lv_at hl 3 rfl) ?_
        refine va_iald (pc := 65) hx hb hK.1 hP 1 0 rfl rfl hb2 dX3_findSpans_65 ?_
        obtain ⟨hb7, h⟩ := r_in h
        refine va_zald (pc := 66) hx hb hK.1 hP 5 1 rfl rfl hb7 dX3_findSpans_66 ?_
        have J85 : ∀ (H : Heap) (locs : List Loc) (ls : Array Slot), fX3_findSpans_85 x2_3 y2_t_firsts y2_t_lasts u3 u5 = some u → lv_has ls 4 [] → va_P E.1 vwCl [(a_t, .inr (3, [.ref a_t_spots, .ref a_t_tones, .ref a_t_firsts, .ref a_t_lasts, .ref a_t_minutes, .int v_t_size, .int v_t_planned])), (a_t_spots, .inl (E.2.1, 8, .inl v_t_spots)), (a_t_tones, .inl (E.2.1, 8, .inl v_t_tones)), (a_t_firsts, .inl (E.2.1, 8, .inl (upd y2_t_firsts x2_3.toNatClampNeg u3))), (a_t_lasts, .inl (E.2.1, 8, .inl (upd y2_t_lasts x2_3.toNatClampNeg u5))), (a_o1, .inr (1, [.ref a_o1_kinds, .ref a_o1_depths, .ref a_o1_lives, .ref a_o1_stops])), (a_o1_kinds, .inl (E.2.1, 108, .inl v_o1_kinds)), (a_o1_depths, .inl (E.2.1, 108, .inl v_o1_depths)), (a_o1_lives, .inl (E.2.1, 108, .inl v_o1_lives)), (a_o1_stops, .inl (E.2.2.1, 108, .inl v_o1_stops))] H → va_D A [(a_t, .inr (3, [.ref a_t_spots, .ref a_t_tones, .ref a_t_firsts, .ref a_t_lasts, .ref a_t_minutes, .int v_t_size, .int v_t_planned])), (a_t_spots, .inl (E.2.1, 8, .inl v_t_spots)), (a_t_tones, .inl (E.2.1, 8, .inl v_t_tones)), (a_t_firsts, .inl (E.2.1, 8, .inl (upd y2_t_firsts x2_3.toNatClampNeg u3))), (a_t_lasts, .inl (E.2.1, 8, .inl (upd y2_t_lasts x2_3.toNatClampNeg u5))), (a_o1, .inr (1, [.ref a_o1_kinds, .ref a_o1_depths, .ref a_o1_lives, .ref a_o1_stops])), (a_o1_kinds, .inl (E.2.1, 108, .inl v_o1_kinds)), (a_o1_depths, .inl (E.2.1, 108, .inl v_o1_depths)), (a_o1_lives, .inl (E.2.1, 108, .inl v_o1_lives)), (a_o1_stops, .inl (E.2.2.1, 108, .inl v_o1_stops))] → va_S A s.heap H locs → W p l e R s m args below meth c H locs 0 0 Q (F0 m 85 ls []) := by
          intro H locs ls h hl hP hD hS
          unfold fX3_findSpans_85 at h
          refine lv_iconst (pc := 85) (v := (0 : Int32)) hx hb dX3_findSpans_85 (by decide) ?_
          obtain rfl := Option.some.inj h
          exact ret _ _ 86 _ zb0 dX3_findSpans_86 hP hD hS
        refine lv_if_ne (pc := 67) (tgt := 85) hx hb dX3_findSpans_67 (by decide) (fun c8 => ?_) (fun c8 => ?_)
        · have h := r_neg h c8
          exact J85 _ _ _ h (lv_sub hl [] rfl) (hP.sub [0, 1, 2, 3, 4, 6, 7, 8, 9, 5] rfl) (hD.sub [0, 1, 2, 3, 4, 6, 7, 8, 9, 5] (by decide) rfl) hS
        · have h := r_pos h c8
          refine lv_aload_n (pc := 70) hx hb dX3_findSpans_70 rfl (lv_at hl 0 rfl) ?_
          refine va_get (pc := 71) (ci := 3) (C := RX3) (T := TX3) (N := 7) hx hb hw3 (fun _ h9 => h9) hown hK.1 hP 0 rfl rfl 2 (by decide) (hT _ zw74 _) (fun _ h9 => h9) rfl dX3_findSpans_71 ?_
          refine lv_iload_n (pc := 74) hx hb dX3_findSpans_74 rfl (lv_at hl 3 rfl) ?_
          refine va_iald (pc := 75) hx hb hK.1 hP 3 0 rfl rfl hb2 dX3_findSpans_75 ?_
          refine lv_aload_n (pc := 76) hx hb dX3_findSpans_76 rfl (lv_at hl 0 rfl) ?_
          refine va_get (pc := 77) (ci := 3) (C := RX3) (T := TX3) (N := 7) hx hb hw3 (fun _ h9 => h9) hown hK.1 hP 0 rfl rfl 3 (by decide) (hT _ zw79 _) (fun _ h9 => h9) rfl dX3_findSpans_77 ?_
          refine lv_iload_n (pc := 80) hx hb dX3_findSpans_80 rfl (lv_at hl 3 rfl) ?_
          refine va_iald (pc := 81) hx hb hK.1 hP 4 0 rfl rfl hb2 dX3_findSpans_81 ?_
          refine lv_icmp_le (pc := 82) (tgt := 87) hx hb dX3_findSpans_82 (by decide) (fun c9 => ?_) (fun c9 => ?_)
          · have h := r_pos h c9
            refine lv_iinc (pc := 87) (v := (x2_3 + (1 : Int32))) (lv' := [(3, .int (x2_3 + (1 : Int32))), (0, .ref a_t), (1, .ref a_o1), (2, .int p2)]) hx hb dX3_findSpans_87 hl (k := 3) rfl rfl (by decide) rfl (fun ls hl => ?_)
            refine lv_goto (pc := 90) (tgt := 2) hx hb dX3_findSpans_90 (by decide) ?_
            exact ih2 (x2_3 + (1 : Int32)) (upd y2_t_firsts x2_3.toNatClampNeg u3) (upd y2_t_lasts x2_3.toNatClampNeg u5) _ _ _ h (lv_sub hl [1, 2, 3, 0] rfl) (hP.sub [0, 1, 2, 3, 4, 6, 7, 8, 9, 5] rfl) (hD.sub [0, 1, 2, 3, 4, 6, 7, 8, 9, 5] (by decide) rfl) hS
          · have h := r_neg h c9
            exact J85 _ _ _ h (lv_sub hl [] rfl) (hP.sub [0, 1, 2, 3, 4, 6, 7, 8, 9, 5] rfl) (hD.sub [0, 1, 2, 3, 4, 6, 7, 8, 9, 5] (by decide) rfl) hS
  exact J2 _ (0 : Int32) v_t_firsts v_t_lasts _ _ _ h (lv_sub hl [1, 2, 3, 0] rfl) hP hD hS
def fX3_earliestLastBehind_41 (x6_3 : Int32) (k6 : Int32 → Int32 → Option (Int32)) (x41_2 : Int32) : Option (Int32) := k6 x41_2 (x6_3 + (1 : Int32))
def fX3_earliestLastBehind_6 (v_t_firsts : Nat → Int32) (v_t_lasts : Nat → Int32) (v_t_size : Int32) (p1 : Int32) : Nat → Int32 → Int32 → Option (Int32)
  | 0, _, _ => none
  | n6 + 1, x6_2, x6_3 => (if v_t_size ≤ x6_3 then some x6_2 else (if inb x6_3 8 = true then (if (v_t_firsts x6_3.toNatClampNeg) ≤ p1 then fX3_earliestLastBehind_41 x6_3 (fX3_earliestLastBehind_6 v_t_firsts v_t_lasts v_t_size p1 n6) x6_2 else (if x6_2 ≤ (v_t_lasts x6_3.toNatClampNeg) then fX3_earliestLastBehind_41 x6_3 (fX3_earliestLastBehind_6 v_t_firsts v_t_lasts v_t_size p1 n6) x6_2 else fX3_earliestLastBehind_41 x6_3 (fX3_earliestLastBehind_6 v_t_firsts v_t_lasts v_t_size p1 n6) (v_t_lasts x6_3.toNatClampNeg))) else none))
def fX3_earliestLastBehind (v_t_firsts : Nat → Int32) (v_t_lasts : Nat → Int32) (v_t_size : Int32) (p1 : Int32) : Option (Int32) := fX3_earliestLastBehind_6 v_t_firsts v_t_lasts v_t_size p1 100000 (201 : Int32) (0 : Int32)
set_option maxHeartbeats 4000000 in
set_option maxRecDepth 100000 in
theorem mt_X3_earliestLastBehind (E : zE) (l : Launch) (a_t : Nat) (a_t_spots : Nat) (a_t_tones : Nat) (a_t_firsts : Nat) (a_t_lasts : Nat) (a_t_minutes : Nat) (v_t_size : Int32) (v_t_planned : Int32) (v_t_firsts : Nat → Int32) (v_t_lasts : Nat → Int32) (p1 : Int32) (u : Int32) (hf : fX3_earliestLastBehind v_t_firsts v_t_lasts v_t_size p1 = some u)   : zM E l yX3_earliestLastBehind [.code yX3_earliestLastBehind cX3_earliestLastBehind 4 (some .int)] { frames := 0, cells := 0, slots := 0, locals := 0 } [.ref a_t, .int p1] [(a_t, .inr (3, [.ref a_t_spots, .ref a_t_tones, .ref a_t_firsts, .ref a_t_lasts, .ref a_t_minutes, .int v_t_size, .int v_t_planned])), (a_t_firsts, .inl (E.2.1, 8, .inl v_t_firsts)), (a_t_lasts, .inl (E.2.1, 8, .inl v_t_lasts))] (some u) [(a_t, .inr (3, [.ref a_t_spots, .ref a_t_tones, .ref a_t_firsts, .ref a_t_lasts, .ref a_t_minutes, .int v_t_size, .int v_t_planned])), (a_t_firsts, .inl (E.2.1, 8, .inl v_t_firsts)), (a_t_lasts, .inl (E.2.1, 8, .inl v_t_lasts))] := by
  refine zM_int (ty := .int) (cc := cX3_earliestLastBehind) (nL := 4) (by decide) (Nat.le_of_ble_eq_true rfl) ?_
  intro p e R s m args below meth c A Q ls hRf hRl hx hb hml hown hK hA hP hD hS hl ret
  have hT := hK.2
  have hown : s.vm.findClass RX3 = some m.cls := hown
  have hl : lv_has ls 4 [(0, .ref a_t), (1, .int p1)] := hl
  have hw3 : ∀ w ∈ u_ws RX3 TX3 7, w.before args s = true := fun w h => hT w (zl_X3 w h) args
  have h := hf
  unfold fX3_earliestLastBehind at h
  refine lv_sipush (pc := 0) (v := (201 : Int32)) hx hb dX3_earliestLastBehind_0 (by decide) ?_
  refine lv_istore_n (pc := 3) (lv' := [(2, .int (201 : Int32)), (0, .ref a_t), (1, .int p1)]) hx hb dX3_earliestLastBehind_3 rfl hl (by decide) rfl (fun ls hl => ?_)
  refine lv_iconst (pc := 4) (v := (0 : Int32)) hx hb dX3_earliestLastBehind_4 (by decide) ?_
  refine lv_istore_n (pc := 5) (lv' := [(3, .int (0 : Int32)), (2, .int (201 : Int32)), (0, .ref a_t), (1, .int p1)]) hx hb dX3_earliestLastBehind_5 rfl hl (by decide) rfl (fun ls hl => ?_)
  have J6 : ∀ (n6 : Nat) (x6_2 : Int32) (x6_3 : Int32) (H : Heap) (locs : List Loc) (ls : Array Slot), fX3_earliestLastBehind_6 v_t_firsts v_t_lasts v_t_size p1 n6 x6_2 x6_3 = some u → lv_has ls 4 [(0, .ref a_t), (1, .int p1), (2, .int x6_2), (3, .int x6_3)] → va_P E.1 vwCl [(a_t, .inr (3, [.ref a_t_spots, .ref a_t_tones, .ref a_t_firsts, .ref a_t_lasts, .ref a_t_minutes, .int v_t_size, .int v_t_planned])), (a_t_firsts, .inl (E.2.1, 8, .inl v_t_firsts)), (a_t_lasts, .inl (E.2.1, 8, .inl v_t_lasts))] H → va_D A [(a_t, .inr (3, [.ref a_t_spots, .ref a_t_tones, .ref a_t_firsts, .ref a_t_lasts, .ref a_t_minutes, .int v_t_size, .int v_t_planned])), (a_t_firsts, .inl (E.2.1, 8, .inl v_t_firsts)), (a_t_lasts, .inl (E.2.1, 8, .inl v_t_lasts))] → va_S A s.heap H locs → W p l e R s m args below meth c H locs 0 0 Q (F0 m 6 ls []) := by
    intro n6
    induction n6 with
    | zero =>
      intro x6_2 x6_3 H locs ls h hl hP hD hS
      rw [fX3_earliestLastBehind_6] at h
      cases h
    | succ n6 ih6 =>
      intro x6_2 x6_3 H locs ls h hl hP hD hS
      rw [fX3_earliestLastBehind_6] at h
      refine lv_iload_n (pc := 6) hx hb dX3_earliestLastBehind_6 rfl (lv_at hl 3 rfl) ?_
      refine lv_aload_n (pc := 7) hx hb dX3_earliestLastBehind_7 rfl (lv_at hl 0 rfl) ?_
      refine va_get (pc := 8) (ci := 3) (C := RX3) (T := TX3) (N := 7) hx hb hw3 (fun _ h9 => h9) hown hK.1 hP 0 rfl rfl 5 (by decide) (hT _ zw71 _) (fun _ h9 => h9) rfl dX3_earliestLastBehind_8 ?_
      refine lv_icmp_ge (pc := 11) (tgt := 47) hx hb dX3_earliestLastBehind_11 (by decide) (fun c1 => ?_) (fun c1 => ?_)
      · have h := r_pos h c1
        refine lv_iload_n (pc := 47) hx hb dX3_earliestLastBehind_47 rfl (lv_at hl 2 rfl) ?_
        obtain rfl := Option.some.inj h
        exact ret _ _ 48 _ rfl dX3_earliestLastBehind_48 hP hD hS
      · have h := r_neg h c1
        refine lv_aload_n (pc := 14) hx hb dX3_earliestLastBehind_14 rfl (lv_at hl 0 rfl) ?_
        refine va_get (pc := 15) (ci := 3) (C := RX3) (T := TX3) (N := 7) hx hb hw3 (fun _ h9 => h9) hown hK.1 hP 0 rfl rfl 2 (by decide) (hT _ zw74 _) (fun _ h9 => h9) rfl dX3_earliestLastBehind_15 ?_
        refine lv_iload_n (pc := 18) hx hb dX3_earliestLastBehind_18 rfl (lv_at hl 3 rfl) ?_
        obtain ⟨hb2, h⟩ := r_in h
        refine va_iald (pc := 19) hx hb hK.1 hP 1 0 rfl rfl hb2 dX3_earliestLastBehind_19 ?_
        refine lv_iload_n (pc := 20) hx hb dX3_earliestLastBehind_20 rfl (lv_at hl 1 rfl) ?_
        have J41 : ∀ (x41_2 : Int32) (H : Heap) (locs : List Loc) (ls : Array Slot), fX3_earliestLastBehind_41 x6_3 (fX3_earliestLastBehind_6 v_t_firsts v_t_lasts v_t_size p1 n6) x41_2 = some u → lv_has ls 4 [(0, .ref a_t), (1, .int p1), (2, .int x41_2), (3, .int x6_3)] → va_P E.1 vwCl [(a_t, .inr (3, [.ref a_t_spots, .ref a_t_tones, .ref a_t_firsts, .ref a_t_lasts, .ref a_t_minutes, .int v_t_size, .int v_t_planned])), (a_t_firsts, .inl (E.2.1, 8, .inl v_t_firsts)), (a_t_lasts, .inl (E.2.1, 8, .inl v_t_lasts))] H → va_D A [(a_t, .inr (3, [.ref a_t_spots, .ref a_t_tones, .ref a_t_firsts, .ref a_t_lasts, .ref a_t_minutes, .int v_t_size, .int v_t_planned])), (a_t_firsts, .inl (E.2.1, 8, .inl v_t_firsts)), (a_t_lasts, .inl (E.2.1, 8, .inl v_t_lasts))] → va_S A s.heap H locs → W p l e R s m args below meth c H locs 0 0 Q (F0 m 41 ls []) := by
          intro x41_2 H locs ls h hl hP hD hS
          unfold fX3_earliestLastBehind_41 at h
          refine lv_iinc (pc := 41) (v := (x6_3 + (1 : Int32))) (lv' := [(3, .int (x6_3 + (1 : Int32))), (0, .ref a_t), (1, .int p1), (2, .int x41_2)]) hx hb dX3_earliestLastBehind_41 hl (k := 3) rfl rfl (by decide) rfl (fun ls hl => ?_)
          refine lv_goto (pc := 44) (tgt := 6) hx hb dX3_earliestLastBehind_44 (by decide) ?_
          exact ih6 x41_2 (x6_3 + (1 : Int32)) _ _ _ h (lv_sub hl [1, 2, 3, 0] rfl) hP hD hS
        refine lv_icmp_le (pc := 21) (tgt := 41) hx hb dX3_earliestLastBehind_21 (by decide) (fun c3 => ?_) (fun c3 => ?_)
        · have h := r_pos h c3
          exact J41 x6_2 _ _ _ h hl hP hD hS
        · have h := r_neg h c3
          refine lv_aload_n (pc := 24) hx hb dX3_earliestLastBehind_24 rfl (lv_at hl 0 rfl) ?_
          refine va_get (pc := 25) (ci := 3) (C := RX3) (T := TX3) (N := 7) hx hb hw3 (fun _ h9 => h9) hown hK.1 hP 0 rfl rfl 3 (by decide) (hT _ zw79 _) (fun _ h9 => h9) rfl dX3_earliestLastBehind_25 ?_
          refine lv_iload_n (pc := 28) hx hb dX3_earliestLastBehind_28 rfl (lv_at hl 3 rfl) ?_
          refine va_iald (pc := 29) hx hb hK.1 hP 2 0 rfl rfl hb2 dX3_earliestLastBehind_29 ?_
          refine lv_iload_n (pc := 30) hx hb dX3_earliestLastBehind_30 rfl (lv_at hl 2 rfl) ?_
          refine lv_icmp_ge (pc := 31) (tgt := 41) hx hb dX3_earliestLastBehind_31 (by decide) (fun c4 => ?_) (fun c4 => ?_)
          · have h := r_pos h c4
            exact J41 x6_2 _ _ _ h hl hP hD hS
          · have h := r_neg h c4
            refine lv_aload_n (pc := 34) hx hb dX3_earliestLastBehind_34 rfl (lv_at hl 0 rfl) ?_
            refine va_get (pc := 35) (ci := 3) (C := RX3) (T := TX3) (N := 7) hx hb hw3 (fun _ h9 => h9) hown hK.1 hP 0 rfl rfl 3 (by decide) (hT _ zw79 _) (fun _ h9 => h9) rfl dX3_earliestLastBehind_35 ?_
            refine lv_iload_n (pc := 38) hx hb dX3_earliestLastBehind_38 rfl (lv_at hl 3 rfl) ?_
            refine va_iald (pc := 39) hx hb hK.1 hP 2 0 rfl rfl hb2 dX3_earliestLastBehind_39 ?_
            refine lv_istore_n (pc := 40) (lv' := [(2, .int (v_t_lasts x6_3.toNatClampNeg)), (0, .ref a_t), (1, .int p1), (3, .int x6_3)]) hx hb dX3_earliestLastBehind_40 rfl hl (by decide) rfl (fun ls hl => ?_)
            exact J41 (v_t_lasts x6_3.toNatClampNeg) _ _ _ h (lv_sub hl [1, 2, 0, 3] rfl) hP hD hS
  exact J6 _ (201 : Int32) (0 : Int32) _ _ _ h (lv_sub hl [2, 3, 1, 0] rfl) hP hD hS
def fX3_fewestBehind_42 (x11_2 : Int32) : Option (Int32) := some x11_2
def fX3_fewestBehind_11 (v_t_firsts : Nat → Int32) (v_t_lasts : Nat → Int32) (v_t_size : Int32) : Nat → Int32 → Int32 → Int32 → Option (Int32)
  | 0, _, _, _ => none
  | n11 + 1, x11_2, x11_3, x11_4 => (if v_t_size ≤ x11_4 then fX3_fewestBehind_42 x11_2 else (if (201 : Int32) ≤ x11_3 then fX3_fewestBehind_42 x11_2 else ((fX3_earliestLastBehind v_t_firsts v_t_lasts v_t_size x11_3).bind fun u5 => (fX3_fewestBehind_11 v_t_firsts v_t_lasts v_t_size n11) (x11_2 + (1 : Int32)) u5 (x11_4 + (1 : Int32)))))
def fX3_fewestBehind (v_t_firsts : Nat → Int32) (v_t_lasts : Nat → Int32) (v_t_size : Int32) (p1 : Int32) : Option (Int32) := ((fX3_earliestLastBehind v_t_firsts v_t_lasts v_t_size p1).bind fun u1 => fX3_fewestBehind_11 v_t_firsts v_t_lasts v_t_size 100000 (0 : Int32) u1 (0 : Int32))
set_option maxHeartbeats 4000000 in
set_option maxRecDepth 100000 in
theorem mt_X3_fewestBehind (E : zE) (l : Launch) (a_t : Nat) (a_t_spots : Nat) (a_t_tones : Nat) (a_t_firsts : Nat) (a_t_lasts : Nat) (a_t_minutes : Nat) (v_t_size : Int32) (v_t_planned : Int32) (v_t_firsts : Nat → Int32) (v_t_lasts : Nat → Int32) (p1 : Int32) (u : Int32) (hf : fX3_fewestBehind v_t_firsts v_t_lasts v_t_size p1 = some u)   : zM E l yX3_fewestBehind [.code yX3_fewestBehind cX3_fewestBehind 5 (some .int)] { frames := 1, cells := 0, slots := 0, locals := 23 } [.ref a_t, .int p1] [(a_t, .inr (3, [.ref a_t_spots, .ref a_t_tones, .ref a_t_firsts, .ref a_t_lasts, .ref a_t_minutes, .int v_t_size, .int v_t_planned])), (a_t_firsts, .inl (E.2.1, 8, .inl v_t_firsts)), (a_t_lasts, .inl (E.2.1, 8, .inl v_t_lasts))] (some u) [(a_t, .inr (3, [.ref a_t_spots, .ref a_t_tones, .ref a_t_firsts, .ref a_t_lasts, .ref a_t_minutes, .int v_t_size, .int v_t_planned])), (a_t_firsts, .inl (E.2.1, 8, .inl v_t_firsts)), (a_t_lasts, .inl (E.2.1, 8, .inl v_t_lasts))] := by
  refine zM_int (ty := .int) (cc := cX3_fewestBehind) (nL := 5) (by decide) (Nat.le_of_ble_eq_true rfl) ?_
  intro p e R s m args below meth c A Q ls hRf hRl hx hb hml hown hK hA hP hD hS hl ret
  have hT := hK.2
  have hown : s.vm.findClass RX3 = some m.cls := hown
  have hl : lv_has ls 5 [(0, .ref a_t), (1, .int p1)] := hl
  have hw3 : ∀ w ∈ u_ws RX3 TX3 7, w.before args s = true := fun w h => hT w (zl_X3 w h) args
  have h := hf
  unfold fX3_fewestBehind at h
  refine lv_iconst (pc := 0) (v := (0 : Int32)) hx hb dX3_fewestBehind_0 (by decide) ?_
  refine lv_istore_n (pc := 1) (lv' := [(2, .int (0 : Int32)), (0, .ref a_t), (1, .int p1)]) hx hb dX3_fewestBehind_1 rfl hl (by decide) rfl (fun ls hl => ?_)
  refine lv_aload_n (pc := 2) hx hb dX3_fewestBehind_2 rfl (lv_at hl 1 rfl) ?_
  refine lv_iload_n (pc := 3) hx hb dX3_fewestBehind_3 rfl (lv_at hl 2 rfl) ?_
  obtain ⟨u1, hg2, h⟩ := r_bind h
  refine z_callV (pc := 4) (n := 1) (o := some u1) (As := [.int p1]) (rest := []) (ci := 3) (q0 := 0) (wc := [(a_t, .inr (3, [.ref a_t_spots, .ref a_t_tones, .ref a_t_firsts, .ref a_t_lasts, .ref a_t_minutes, .int v_t_size, .int v_t_planned])), (a_t_firsts, .inl (E.2.1, 8, .inl v_t_firsts)), (a_t_lasts, .inl (E.2.1, 8, .inl v_t_lasts))]) (wc' := [(a_t, .inr (3, [.ref a_t_spots, .ref a_t_tones, .ref a_t_firsts, .ref a_t_lasts, .ref a_t_minutes, .int v_t_size, .int v_t_planned])), (a_t_firsts, .inl (E.2.1, 8, .inl v_t_firsts)), (a_t_lasts, .inl (E.2.1, 8, .inl v_t_lasts))]) (wr := []) hx hb hml hown hK hA hP hD hS hl.1 ⟨Nat.zero_le _, Nat.zero_le _⟩ (mt_X3_earliestLastBehind E l a_t a_t_spots a_t_tones a_t_firsts a_t_lasts a_t_minutes v_t_size v_t_planned v_t_firsts v_t_lasts p1 u1 hg2) zw85 zw86 zw87 zw88 zw89 (by decide +kernel) rfl ⟨rfl, rfl, Nat.le_trans (Nat.le_of_ble_eq_true rfl) hRf, Nat.le_trans (Nat.le_of_ble_eq_true rfl) hRl⟩ [0, 1, 2] [] (by decide) rfl rfl (by decide) (by decide) rfl rfl rfl (Nat.le_of_ble_eq_true rfl) dX3_fewestBehind_4 (fun H locs hP hD hS => ?_)
  have hP : va_P E.1 vwCl [(a_t, .inr (3, [.ref a_t_spots, .ref a_t_tones, .ref a_t_firsts, .ref a_t_lasts, .ref a_t_minutes, .int v_t_size, .int v_t_planned])), (a_t_firsts, .inl (E.2.1, 8, .inl v_t_firsts)), (a_t_lasts, .inl (E.2.1, 8, .inl v_t_lasts))] H := hP
  have hD : va_D A [(a_t, .inr (3, [.ref a_t_spots, .ref a_t_tones, .ref a_t_firsts, .ref a_t_lasts, .ref a_t_minutes, .int v_t_size, .int v_t_planned])), (a_t_firsts, .inl (E.2.1, 8, .inl v_t_firsts)), (a_t_lasts, .inl (E.2.1, 8, .inl v_t_lasts))] := hD
  refine lv_istore_n (pc := 7) (lv' := [(3, .int u1), (2, .int (0 : Int32)), (0, .ref a_t), (1, .int p1)]) hx hb dX3_fewestBehind_7 rfl hl (by decide) rfl (fun ls hl => ?_)
  refine lv_iconst (pc := 8) (v := (0 : Int32)) hx hb dX3_fewestBehind_8 (by decide) ?_
  refine lv_istore (pc := 9) (lv' := [(4, .int (0 : Int32)), (3, .int u1), (2, .int (0 : Int32)), (0, .ref a_t), (1, .int p1)]) hx hb dX3_fewestBehind_9 hl (by decide) rfl (fun ls hl => ?_)
  have J11 : ∀ (n11 : Nat) (x11_2 : Int32) (x11_3 : Int32) (x11_4 : Int32) (H : Heap) (locs : List Loc) (ls : Array Slot), fX3_fewestBehind_11 v_t_firsts v_t_lasts v_t_size n11 x11_2 x11_3 x11_4 = some u → lv_has ls 5 [(0, .ref a_t), (2, .int x11_2), (3, .int x11_3), (4, .int x11_4)] → va_P E.1 vwCl [(a_t, .inr (3, [.ref a_t_spots, .ref a_t_tones, .ref a_t_firsts, .ref a_t_lasts, .ref a_t_minutes, .int v_t_size, .int v_t_planned])), (a_t_firsts, .inl (E.2.1, 8, .inl v_t_firsts)), (a_t_lasts, .inl (E.2.1, 8, .inl v_t_lasts))] H → va_D A [(a_t, .inr (3, [.ref a_t_spots, .ref a_t_tones, .ref a_t_firsts, .ref a_t_lasts, .ref a_t_minutes, .int v_t_size, .int v_t_planned])), (a_t_firsts, .inl (E.2.1, 8, .inl v_t_firsts)), (a_t_lasts, .inl (E.2.1, 8, .inl v_t_lasts))] → va_S A s.heap H locs → W p l e R s m args below meth c H locs 0 0 Q (F0 m 11 ls []) := by
    intro n11
    induction n11 with
    | zero =>
      intro x11_2 x11_3 x11_4 H locs ls h hl hP hD hS
      rw [fX3_fewestBehind_11] at h
      cases h
    | succ n11 ih11 =>
      intro x11_2 x11_3 x11_4 H locs ls h hl hP hD hS
      rw [fX3_fewestBehind_11] at h
      refine lv_iload (pc := 11) hx hb dX3_fewestBehind_11 (lv_at hl 3 rfl) ?_
      refine lv_aload_n (pc := 13) hx hb dX3_fewestBehind_13 rfl (lv_at hl 0 rfl) ?_
      refine va_get (pc := 14) (ci := 3) (C := RX3) (T := TX3) (N := 7) hx hb hw3 (fun _ h9 => h9) hown hK.1 hP 0 rfl rfl 5 (by decide) (hT _ zw71 _) (fun _ h9 => h9) rfl dX3_fewestBehind_14 ?_
      have J42 : ∀ (H : Heap) (locs : List Loc) (ls : Array Slot), fX3_fewestBehind_42 x11_2 = some u → lv_has ls 5 [(2, .int x11_2)] → va_P E.1 vwCl [(a_t, .inr (3, [.ref a_t_spots, .ref a_t_tones, .ref a_t_firsts, .ref a_t_lasts, .ref a_t_minutes, .int v_t_size, .int v_t_planned])), (a_t_firsts, .inl (E.2.1, 8, .inl v_t_firsts)), (a_t_lasts, .inl (E.2.1, 8, .inl v_t_lasts))] H → va_D A [(a_t, .inr (3, [.ref a_t_spots, .ref a_t_tones, .ref a_t_firsts, .ref a_t_lasts, .ref a_t_minutes, .int v_t_size, .int v_t_planned])), (a_t_firsts, .inl (E.2.1, 8, .inl v_t_firsts)), (a_t_lasts, .inl (E.2.1, 8, .inl v_t_lasts))] → va_S A s.heap H locs → W p l e R s m args below meth c H locs 0 0 Q (F0 m 42 ls []) := by
        intro H locs ls h hl hP hD hS
        unfold fX3_fewestBehind_42 at h
        refine lv_iload_n (pc := 42) hx hb dX3_fewestBehind_42 rfl (lv_at hl 0 rfl) ?_
        obtain rfl := Option.some.inj h
        exact ret _ _ 43 _ rfl dX3_fewestBehind_43 hP hD hS
      refine lv_icmp_ge (pc := 17) (tgt := 42) hx hb dX3_fewestBehind_17 (by decide) (fun c3 => ?_) (fun c3 => ?_)
      · have h := r_pos h c3
        exact J42 _ _ _ h (lv_sub hl [1] rfl) hP hD hS
      · have h := r_neg h c3
        refine lv_iload_n (pc := 20) hx hb dX3_fewestBehind_20 rfl (lv_at hl 2 rfl) ?_
        refine lv_sipush (pc := 21) (v := (201 : Int32)) hx hb dX3_fewestBehind_21 (by decide) ?_
        refine lv_icmp_ge (pc := 24) (tgt := 42) hx hb dX3_fewestBehind_24 (by decide) (fun c4 => ?_) (fun c4 => ?_)
        · have h := r_pos h c4
          exact J42 _ _ _ h (lv_sub hl [1] rfl) hP hD hS
        · have h := r_neg h c4
          refine lv_iinc (pc := 27) (v := (x11_2 + (1 : Int32))) (lv' := [(2, .int (x11_2 + (1 : Int32))), (0, .ref a_t), (3, .int x11_3), (4, .int x11_4)]) hx hb dX3_fewestBehind_27 hl (k := 1) rfl rfl (by decide) rfl (fun ls hl => ?_)
          refine lv_aload_n (pc := 30) hx hb dX3_fewestBehind_30 rfl (lv_at hl 1 rfl) ?_
          refine lv_iload_n (pc := 31) hx hb dX3_fewestBehind_31 rfl (lv_at hl 2 rfl) ?_
          obtain ⟨u5, hg6, h⟩ := r_bind h
          refine z_callV (pc := 32) (n := 1) (o := some u5) (As := [.int x11_3]) (rest := []) (ci := 3) (q0 := 0) (wc := [(a_t, .inr (3, [.ref a_t_spots, .ref a_t_tones, .ref a_t_firsts, .ref a_t_lasts, .ref a_t_minutes, .int v_t_size, .int v_t_planned])), (a_t_firsts, .inl (E.2.1, 8, .inl v_t_firsts)), (a_t_lasts, .inl (E.2.1, 8, .inl v_t_lasts))]) (wc' := [(a_t, .inr (3, [.ref a_t_spots, .ref a_t_tones, .ref a_t_firsts, .ref a_t_lasts, .ref a_t_minutes, .int v_t_size, .int v_t_planned])), (a_t_firsts, .inl (E.2.1, 8, .inl v_t_firsts)), (a_t_lasts, .inl (E.2.1, 8, .inl v_t_lasts))]) (wr := []) hx hb hml hown hK hA hP hD hS hl.1 ⟨Nat.zero_le _, Nat.zero_le _⟩ (mt_X3_earliestLastBehind E l a_t a_t_spots a_t_tones a_t_firsts a_t_lasts a_t_minutes v_t_size v_t_planned v_t_firsts v_t_lasts x11_3 u5 hg6) zw85 zw86 zw87 zw88 zw89 (by decide +kernel) rfl ⟨rfl, rfl, Nat.le_trans (Nat.le_of_ble_eq_true rfl) hRf, Nat.le_trans (Nat.le_of_ble_eq_true rfl) hRl⟩ [0, 1, 2] [] (by decide) rfl rfl (by decide) (by decide) rfl rfl rfl (Nat.le_of_ble_eq_true rfl) dX3_fewestBehind_32 (fun H locs hP hD hS => ?_)
          have hP : va_P E.1 vwCl [(a_t, .inr (3, [.ref a_t_spots, .ref a_t_tones, .ref a_t_firsts, .ref a_t_lasts, .ref a_t_minutes, .int v_t_size, .int v_t_planned])), (a_t_firsts, .inl (E.2.1, 8, .inl v_t_firsts)), (a_t_lasts, .inl (E.2.1, 8, .inl v_t_lasts))] H := hP
          have hD : va_D A [(a_t, .inr (3, [.ref a_t_spots, .ref a_t_tones, .ref a_t_firsts, .ref a_t_lasts, .ref a_t_minutes, .int v_t_size, .int v_t_planned])), (a_t_firsts, .inl (E.2.1, 8, .inl v_t_firsts)), (a_t_lasts, .inl (E.2.1, 8, .inl v_t_lasts))] := hD
          refine lv_istore_n (pc := 35) (lv' := [(3, .int u5), (2, .int (x11_2 + (1 : Int32))), (0, .ref a_t), (4, .int x11_4)]) hx hb dX3_fewestBehind_35 rfl hl (by decide) rfl (fun ls hl => ?_)
          refine lv_iinc (pc := 36) (v := (x11_4 + (1 : Int32))) (lv' := [(4, .int (x11_4 + (1 : Int32))), (3, .int u5), (2, .int (x11_2 + (1 : Int32))), (0, .ref a_t)]) hx hb dX3_fewestBehind_36 hl (k := 3) rfl rfl (by decide) rfl (fun ls hl => ?_)
          refine lv_goto (pc := 39) (tgt := 11) hx hb dX3_fewestBehind_39 (by decide) ?_
          exact ih11 (x11_2 + (1 : Int32)) u5 (x11_4 + (1 : Int32)) _ _ _ h (lv_sub hl [3, 2, 1, 0] rfl) hP hD hS
  exact J11 _ (0 : Int32) u1 (0 : Int32) _ _ _ h (lv_sub hl [3, 2, 1, 0] rfl) hP hD hS
def fX3_leastMinuteBehind_52 (x9_4 : Int32) (k9 : Int32 → Int32 → Option (Int32)) (x52_3 : Int32) : Option (Int32) := k9 x52_3 (x9_4 + (1 : Int32))
def fX3_leastMinuteBehind_9 (v_t_firsts : Nat → Int32) (v_t_lasts : Nat → Int32) (v_t_size : Int32) (p1 : Int32) (p2 : Int32) : Nat → Int32 → Int32 → Option (Int32)
  | 0, _, _ => none
  | n9 + 1, x9_3, x9_4 => (if v_t_size ≤ x9_4 then some x9_3 else (if inb x9_4 8 = true then (if (v_t_firsts x9_4.toNatClampNeg) ≤ p1 then fX3_leastMinuteBehind_52 x9_4 (fX3_leastMinuteBehind_9 v_t_firsts v_t_lasts v_t_size p1 p2 n9) x9_3 else (if x9_3 ≤ (v_t_firsts x9_4.toNatClampNeg) then fX3_leastMinuteBehind_52 x9_4 (fX3_leastMinuteBehind_9 v_t_firsts v_t_lasts v_t_size p1 p2 n9) x9_3 else ((fX3_fewestBehind v_t_firsts v_t_lasts v_t_size (v_t_firsts x9_4.toNatClampNeg)).bind fun u7 => (if p2 ≤ u7 then fX3_leastMinuteBehind_52 x9_4 (fX3_leastMinuteBehind_9 v_t_firsts v_t_lasts v_t_size p1 p2 n9) x9_3 else fX3_leastMinuteBehind_52 x9_4 (fX3_leastMinuteBehind_9 v_t_firsts v_t_lasts v_t_size p1 p2 n9) (v_t_firsts x9_4.toNatClampNeg))))) else none))
def fX3_leastMinuteBehind (v_t_firsts : Nat → Int32) (v_t_lasts : Nat → Int32) (v_t_size : Int32) (p1 : Int32) (p2 : Int32) : Option (Int32) := ((fX3_earliestLastBehind v_t_firsts v_t_lasts v_t_size p1).bind fun u1 => fX3_leastMinuteBehind_9 v_t_firsts v_t_lasts v_t_size p1 p2 100000 u1 (0 : Int32))
set_option maxHeartbeats 4000000 in
set_option maxRecDepth 100000 in
theorem mt_X3_leastMinuteBehind (E : zE) (l : Launch) (a_t : Nat) (a_t_spots : Nat) (a_t_tones : Nat) (a_t_firsts : Nat) (a_t_lasts : Nat) (a_t_minutes : Nat) (v_t_size : Int32) (v_t_planned : Int32) (v_t_firsts : Nat → Int32) (v_t_lasts : Nat → Int32) (p1 : Int32) (p2 : Int32) (u : Int32) (hf : fX3_leastMinuteBehind v_t_firsts v_t_lasts v_t_size p1 p2 = some u)   : zM E l yX3_leastMinuteBehind [.code yX3_leastMinuteBehind cX3_leastMinuteBehind 6 (some .int)] { frames := 2, cells := 0, slots := 0, locals := 47 } [.ref a_t, .int p1, .int p2] [(a_t, .inr (3, [.ref a_t_spots, .ref a_t_tones, .ref a_t_firsts, .ref a_t_lasts, .ref a_t_minutes, .int v_t_size, .int v_t_planned])), (a_t_firsts, .inl (E.2.1, 8, .inl v_t_firsts)), (a_t_lasts, .inl (E.2.1, 8, .inl v_t_lasts))] (some u) [(a_t, .inr (3, [.ref a_t_spots, .ref a_t_tones, .ref a_t_firsts, .ref a_t_lasts, .ref a_t_minutes, .int v_t_size, .int v_t_planned])), (a_t_firsts, .inl (E.2.1, 8, .inl v_t_firsts)), (a_t_lasts, .inl (E.2.1, 8, .inl v_t_lasts))] := by
  refine zM_int (ty := .int) (cc := cX3_leastMinuteBehind) (nL := 6) (by decide) (Nat.le_of_ble_eq_true rfl) ?_
  intro p e R s m args below meth c A Q ls hRf hRl hx hb hml hown hK hA hP hD hS hl ret
  have hT := hK.2
  have hown : s.vm.findClass RX3 = some m.cls := hown
  have hl : lv_has ls 6 [(0, .ref a_t), (1, .int p1), (2, .int p2)] := hl
  have hw3 : ∀ w ∈ u_ws RX3 TX3 7, w.before args s = true := fun w h => hT w (zl_X3 w h) args
  have h := hf
  unfold fX3_leastMinuteBehind at h
  refine lv_aload_n (pc := 0) hx hb dX3_leastMinuteBehind_0 rfl (lv_at hl 0 rfl) ?_
  refine lv_iload_n (pc := 1) hx hb dX3_leastMinuteBehind_1 rfl (lv_at hl 1 rfl) ?_
  obtain ⟨u1, hg2, h⟩ := r_bind h
  refine z_callV (pc := 2) (n := 1) (o := some u1) (As := [.int p1]) (rest := []) (ci := 3) (q0 := 0) (wc := [(a_t, .inr (3, [.ref a_t_spots, .ref a_t_tones, .ref a_t_firsts, .ref a_t_lasts, .ref a_t_minutes, .int v_t_size, .int v_t_planned])), (a_t_firsts, .inl (E.2.1, 8, .inl v_t_firsts)), (a_t_lasts, .inl (E.2.1, 8, .inl v_t_lasts))]) (wc' := [(a_t, .inr (3, [.ref a_t_spots, .ref a_t_tones, .ref a_t_firsts, .ref a_t_lasts, .ref a_t_minutes, .int v_t_size, .int v_t_planned])), (a_t_firsts, .inl (E.2.1, 8, .inl v_t_firsts)), (a_t_lasts, .inl (E.2.1, 8, .inl v_t_lasts))]) (wr := []) hx hb hml hown hK hA hP hD hS hl.1 ⟨Nat.zero_le _, Nat.zero_le _⟩ (mt_X3_earliestLastBehind E l a_t a_t_spots a_t_tones a_t_firsts a_t_lasts a_t_minutes v_t_size v_t_planned v_t_firsts v_t_lasts p1 u1 hg2) zw85 zw86 zw87 zw88 zw89 (by decide +kernel) rfl ⟨rfl, rfl, Nat.le_trans (Nat.le_of_ble_eq_true rfl) hRf, Nat.le_trans (Nat.le_of_ble_eq_true rfl) hRl⟩ [0, 1, 2] [] (by decide) rfl rfl (by decide) (by decide) rfl rfl rfl (Nat.le_of_ble_eq_true rfl) dX3_leastMinuteBehind_2 (fun H locs hP hD hS => ?_)
  have hP : va_P E.1 vwCl [(a_t, .inr (3, [.ref a_t_spots, .ref a_t_tones, .ref a_t_firsts, .ref a_t_lasts, .ref a_t_minutes, .int v_t_size, .int v_t_planned])), (a_t_firsts, .inl (E.2.1, 8, .inl v_t_firsts)), (a_t_lasts, .inl (E.2.1, 8, .inl v_t_lasts))] H := hP
  have hD : va_D A [(a_t, .inr (3, [.ref a_t_spots, .ref a_t_tones, .ref a_t_firsts, .ref a_t_lasts, .ref a_t_minutes, .int v_t_size, .int v_t_planned])), (a_t_firsts, .inl (E.2.1, 8, .inl v_t_firsts)), (a_t_lasts, .inl (E.2.1, 8, .inl v_t_lasts))] := hD
  refine lv_istore_n (pc := 5) (lv' := [(3, .int u1), (0, .ref a_t), (1, .int p1), (2, .int p2)]) hx hb dX3_leastMinuteBehind_5 rfl hl (by decide) rfl (fun ls hl => ?_)
  refine lv_iconst (pc := 6) (v := (0 : Int32)) hx hb dX3_leastMinuteBehind_6 (by decide) ?_
  refine lv_istore (pc := 7) (lv' := [(4, .int (0 : Int32)), (3, .int u1), (0, .ref a_t), (1, .int p1), (2, .int p2)]) hx hb dX3_leastMinuteBehind_7 hl (by decide) rfl (fun ls hl => ?_)
  have J9 : ∀ (n9 : Nat) (x9_3 : Int32) (x9_4 : Int32) (H : Heap) (locs : List Loc) (ls : Array Slot), fX3_leastMinuteBehind_9 v_t_firsts v_t_lasts v_t_size p1 p2 n9 x9_3 x9_4 = some u → lv_has ls 6 [(0, .ref a_t), (1, .int p1), (2, .int p2), (3, .int x9_3), (4, .int x9_4)] → va_P E.1 vwCl [(a_t, .inr (3, [.ref a_t_spots, .ref a_t_tones, .ref a_t_firsts, .ref a_t_lasts, .ref a_t_minutes, .int v_t_size, .int v_t_planned])), (a_t_firsts, .inl (E.2.1, 8, .inl v_t_firsts)), (a_t_lasts, .inl (E.2.1, 8, .inl v_t_lasts))] H → va_D A [(a_t, .inr (3, [.ref a_t_spots, .ref a_t_tones, .ref a_t_firsts, .ref a_t_lasts, .ref a_t_minutes, .int v_t_size, .int v_t_planned])), (a_t_firsts, .inl (E.2.1, 8, .inl v_t_firsts)), (a_t_lasts, .inl (E.2.1, 8, .inl v_t_lasts))] → va_S A s.heap H locs → W p l e R s m args below meth c H locs 0 0 Q (F0 m 9 ls []) := by
    intro n9
    induction n9 with
    | zero =>
      intro x9_3 x9_4 H locs ls h hl hP hD hS
      rw [fX3_leastMinuteBehind_9] at h
      cases h
    | succ n9 ih9 =>
      intro x9_3 x9_4 H locs ls h hl hP hD hS
      rw [fX3_leastMinuteBehind_9] at h
      refine lv_iload (pc := 9) hx hb dX3_leastMinuteBehind_9 (lv_at hl 4 rfl) ?_
      refine lv_aload_n (pc := 11) hx hb dX3_leastMinuteBehind_11 rfl (lv_at hl 0 rfl) ?_
      refine va_get (pc := 12) (ci := 3) (C := RX3) (T := TX3) (N := 7) hx hb hw3 (fun _ h9 => h9) hown hK.1 hP 0 rfl rfl 5 (by decide) (hT _ zw71 _) (fun _ h9 => h9) rfl dX3_leastMinuteBehind_12 ?_
      refine lv_icmp_ge (pc := 15) (tgt := 58) hx hb dX3_leastMinuteBehind_15 (by decide) (fun c3 => ?_) (fun c3 => ?_)
      · have h := r_pos h c3
        refine lv_iload_n (pc := 58) hx hb dX3_leastMinuteBehind_58 rfl (lv_at hl 3 rfl) ?_
        obtain rfl := Option.some.inj h
        exact ret _ _ 59 _ rfl dX3_leastMinuteBehind_59 hP hD hS
      · have h := r_neg h c3
        refine lv_aload_n (pc := 18) hx hb dX3_leastMinuteBehind_18 rfl (lv_at hl 0 rfl) ?_
        refine va_get (pc := 19) (ci := 3) (C := RX3) (T := TX3) (N := 7) hx hb hw3 (fun _ h9 => h9) hown hK.1 hP 0 rfl rfl 2 (by decide) (hT _ zw74 _) (fun _ h9 => h9) rfl dX3_leastMinuteBehind_19 ?_
        refine lv_iload (pc := 22) hx hb dX3_leastMinuteBehind_22 (lv_at hl 4 rfl) ?_
        obtain ⟨hb4, h⟩ := r_in h
        refine va_iald (pc := 24) hx hb hK.1 hP 1 0 rfl rfl hb4 dX3_leastMinuteBehind_24 ?_
        refine lv_istore (pc := 25) (lv' := [(5, .int (v_t_firsts x9_4.toNatClampNeg)), (0, .ref a_t), (1, .int p1), (2, .int p2), (3, .int x9_3), (4, .int x9_4)]) hx hb dX3_leastMinuteBehind_25 hl (by decide) rfl (fun ls hl => ?_)
        refine lv_iload (pc := 27) hx hb dX3_leastMinuteBehind_27 (lv_at hl 0 rfl) ?_
        refine lv_iload_n (pc := 29) hx hb dX3_leastMinuteBehind_29 rfl (lv_at hl 2 rfl) ?_
        have J52 : ∀ (x52_3 : Int32) (H : Heap) (locs : List Loc) (ls : Array Slot), fX3_leastMinuteBehind_52 x9_4 (fX3_leastMinuteBehind_9 v_t_firsts v_t_lasts v_t_size p1 p2 n9) x52_3 = some u → lv_has ls 6 [(0, .ref a_t), (1, .int p1), (2, .int p2), (3, .int x52_3), (4, .int x9_4)] → va_P E.1 vwCl [(a_t, .inr (3, [.ref a_t_spots, .ref a_t_tones, .ref a_t_firsts, .ref a_t_lasts, .ref a_t_minutes, .int v_t_size, .int v_t_planned])), (a_t_firsts, .inl (E.2.1, 8, .inl v_t_firsts)), (a_t_lasts, .inl (E.2.1, 8, .inl v_t_lasts))] H → va_D A [(a_t, .inr (3, [.ref a_t_spots, .ref a_t_tones, .ref a_t_firsts, .ref a_t_lasts, .ref a_t_minutes, .int v_t_size, .int v_t_planned])), (a_t_firsts, .inl (E.2.1, 8, .inl v_t_firsts)), (a_t_lasts, .inl (E.2.1, 8, .inl v_t_lasts))] → va_S A s.heap H locs → W p l e R s m args below meth c H locs 0 0 Q (F0 m 52 ls []) := by
          intro x52_3 H locs ls h hl hP hD hS
          unfold fX3_leastMinuteBehind_52 at h
          refine lv_iinc (pc := 52) (v := (x9_4 + (1 : Int32))) (lv' := [(4, .int (x9_4 + (1 : Int32))), (0, .ref a_t), (1, .int p1), (2, .int p2), (3, .int x52_3)]) hx hb dX3_leastMinuteBehind_52 hl (k := 4) rfl rfl (by decide) rfl (fun ls hl => ?_)
          refine lv_goto (pc := 55) (tgt := 9) hx hb dX3_leastMinuteBehind_55 (by decide) ?_
          exact ih9 x52_3 (x9_4 + (1 : Int32)) _ _ _ h (lv_sub hl [1, 2, 3, 4, 0] rfl) hP hD hS
        refine lv_icmp_le (pc := 30) (tgt := 52) hx hb dX3_leastMinuteBehind_30 (by decide) (fun c5 => ?_) (fun c5 => ?_)
        · have h := r_pos h c5
          exact J52 x9_3 _ _ _ h (lv_sub hl [1, 2, 3, 4, 5] rfl) hP hD hS
        · have h := r_neg h c5
          refine lv_iload (pc := 33) hx hb dX3_leastMinuteBehind_33 (lv_at hl 0 rfl) ?_
          refine lv_iload_n (pc := 35) hx hb dX3_leastMinuteBehind_35 rfl (lv_at hl 4 rfl) ?_
          refine lv_icmp_ge (pc := 36) (tgt := 52) hx hb dX3_leastMinuteBehind_36 (by decide) (fun c6 => ?_) (fun c6 => ?_)
          · have h := r_pos h c6
            exact J52 x9_3 _ _ _ h (lv_sub hl [1, 2, 3, 4, 5] rfl) hP hD hS
          · have h := r_neg h c6
            refine lv_aload_n (pc := 39) hx hb dX3_leastMinuteBehind_39 rfl (lv_at hl 1 rfl) ?_
            refine lv_iload (pc := 40) hx hb dX3_leastMinuteBehind_40 (lv_at hl 0 rfl) ?_
            obtain ⟨u7, hg8, h⟩ := r_bind h
            refine z_callV (pc := 42) (n := 1) (o := some u7) (As := [.int (v_t_firsts x9_4.toNatClampNeg)]) (rest := []) (ci := 3) (q0 := 0) (wc := [(a_t, .inr (3, [.ref a_t_spots, .ref a_t_tones, .ref a_t_firsts, .ref a_t_lasts, .ref a_t_minutes, .int v_t_size, .int v_t_planned])), (a_t_firsts, .inl (E.2.1, 8, .inl v_t_firsts)), (a_t_lasts, .inl (E.2.1, 8, .inl v_t_lasts))]) (wc' := [(a_t, .inr (3, [.ref a_t_spots, .ref a_t_tones, .ref a_t_firsts, .ref a_t_lasts, .ref a_t_minutes, .int v_t_size, .int v_t_planned])), (a_t_firsts, .inl (E.2.1, 8, .inl v_t_firsts)), (a_t_lasts, .inl (E.2.1, 8, .inl v_t_lasts))]) (wr := []) hx hb hml hown hK hA hP hD hS hl.1 ⟨Nat.zero_le _, Nat.zero_le _⟩ (mt_X3_fewestBehind E l a_t a_t_spots a_t_tones a_t_firsts a_t_lasts a_t_minutes v_t_size v_t_planned v_t_firsts v_t_lasts (v_t_firsts x9_4.toNatClampNeg) u7 hg8) zw90 zw91 zw92 zw88 zw93 (by decide +kernel) rfl ⟨rfl, rfl, Nat.le_trans (Nat.le_of_ble_eq_true rfl) hRf, Nat.le_trans (Nat.le_of_ble_eq_true rfl) hRl⟩ [0, 1, 2] [] (by decide) rfl rfl (by decide) (by decide) rfl rfl rfl (Nat.le_of_ble_eq_true rfl) dX3_leastMinuteBehind_42 (fun H locs hP hD hS => ?_)
            have hP : va_P E.1 vwCl [(a_t, .inr (3, [.ref a_t_spots, .ref a_t_tones, .ref a_t_firsts, .ref a_t_lasts, .ref a_t_minutes, .int v_t_size, .int v_t_planned])), (a_t_firsts, .inl (E.2.1, 8, .inl v_t_firsts)), (a_t_lasts, .inl (E.2.1, 8, .inl v_t_lasts))] H := hP
            have hD : va_D A [(a_t, .inr (3, [.ref a_t_spots, .ref a_t_tones, .ref a_t_firsts, .ref a_t_lasts, .ref a_t_minutes, .int v_t_size, .int v_t_planned])), (a_t_firsts, .inl (E.2.1, 8, .inl v_t_firsts)), (a_t_lasts, .inl (E.2.1, 8, .inl v_t_lasts))] := hD
            refine lv_iload_n (pc := 45) hx hb dX3_leastMinuteBehind_45 rfl (lv_at hl 3 rfl) ?_
            refine lv_icmp_ge (pc := 46) (tgt := 52) hx hb dX3_leastMinuteBehind_46 (by decide) (fun c9 => ?_) (fun c9 => ?_)
            · have h := r_pos h c9
              exact J52 x9_3 _ _ _ h (lv_sub hl [1, 2, 3, 4, 5] rfl) hP hD hS
            · have h := r_neg h c9
              refine lv_iload (pc := 49) hx hb dX3_leastMinuteBehind_49 (lv_at hl 0 rfl) ?_
              refine lv_istore_n (pc := 51) (lv' := [(3, .int (v_t_firsts x9_4.toNatClampNeg)), (5, .int (v_t_firsts x9_4.toNatClampNeg)), (0, .ref a_t), (1, .int p1), (2, .int p2), (4, .int x9_4)]) hx hb dX3_leastMinuteBehind_51 rfl hl (by decide) rfl (fun ls hl => ?_)
              exact J52 (v_t_firsts x9_4.toNatClampNeg) _ _ _ h (lv_sub hl [2, 3, 4, 0, 5] rfl) hP hD hS
  exact J9 _ u1 (0 : Int32) _ _ _ h (lv_sub hl [2, 3, 4, 1, 0] rfl) hP hD hS
def fX3_plan_28 (v_t_size : Int32) (u1 : Int32 × (Nat → Int32) × (Nat → Int32)) : Nat → Int32 → Int32 → Int32 → (Nat → Int32) → Option (Int32 × (Nat → Int32) × (Nat → Int32) × (Nat → Int32) × Int32)
  | 0, _, _, _, _ => none
  | n28 + 1, x28_4, x28_5, y28_t_planned, y28_t_minutes => (if x28_5 ≤ 0 then some ((1 : Int32), u1.2.1, u1.2.2, y28_t_minutes, y28_t_planned) else ((fX3_leastMinuteBehind u1.2.1 u1.2.2 v_t_size x28_4 x28_5).bind fun u7 => (if inb y28_t_planned 8 = true then (fX3_plan_28 v_t_size u1 n28) u7 (x28_5 + (-1 : Int32)) (y28_t_planned + (1 : Int32)) (upd y28_t_minutes y28_t_planned.toNatClampNeg u7) else none)))
def fX3_plan (v_t_spots : Nat → Int32) (v_t_tones : Nat → Int32) (v_t_firsts : Nat → Int32) (v_t_lasts : Nat → Int32) (v_t_minutes : Nat → Int32) (v_t_size : Int32) (v_t_planned : Int32) (v_o1_kinds : Nat → Int32) (v_o1_depths : Nat → Int32) (v_o1_lives : Nat → Int32) (v_o1_stops : Nat → Int32) (p2 : Int32) : Option (Int32 × (Nat → Int32) × (Nat → Int32) × (Nat → Int32) × Int32) := ((fX3_findSpans v_t_spots v_t_tones v_t_firsts v_t_lasts v_t_size v_o1_kinds v_o1_depths v_o1_lives v_o1_stops p2).bind fun u1 => (if u1.1 = 0 then some ((0 : Int32), u1.2.1, u1.2.2, v_t_minutes, (0 : Int32)) else ((fX3_fewestBehind u1.2.1 u1.2.2 v_t_size (-1 : Int32)).bind fun u4 => fX3_plan_28 v_t_size u1 100000 (-1 : Int32) u4 (0 : Int32) v_t_minutes)))
set_option maxHeartbeats 4000000 in
set_option maxRecDepth 100000 in
theorem mt_X3_plan (E : zE) (l : Launch) (a_t : Nat) (a_t_spots : Nat) (a_t_tones : Nat) (a_t_firsts : Nat) (a_t_lasts : Nat) (a_t_minutes : Nat) (a_o1 : Nat) (a_o1_kinds : Nat) (a_o1_depths : Nat) (a_o1_lives : Nat) (a_o1_stops : Nat) (v_t_size : Int32) (v_t_planned : Int32) (v_t_spots : Nat → Int32) (v_t_tones : Nat → Int32) (v_t_firsts : Nat → Int32) (v_t_lasts : Nat → Int32) (v_t_minutes : Nat → Int32) (v_o1_kinds : Nat → Int32) (v_o1_depths : Nat → Int32) (v_o1_lives : Nat → Int32) (v_o1_stops : Nat → Int32) (p2 : Int32) (u : Int32 × (Nat → Int32) × (Nat → Int32) × (Nat → Int32) × Int32) (hf : fX3_plan v_t_spots v_t_tones v_t_firsts v_t_lasts v_t_minutes v_t_size v_t_planned v_o1_kinds v_o1_depths v_o1_lives v_o1_stops p2 = some u)   : zM E l yX3_plan [.code yX3_plan cX3_plan 6 (some .boolean)] { frames := 5, cells := 0, slots := 0, locals := 107 } [.ref a_t, .ref a_o1, .int p2] [(a_t, .inr (3, [.ref a_t_spots, .ref a_t_tones, .ref a_t_firsts, .ref a_t_lasts, .ref a_t_minutes, .int v_t_size, .int v_t_planned])), (a_t_spots, .inl (E.2.1, 8, .inl v_t_spots)), (a_t_tones, .inl (E.2.1, 8, .inl v_t_tones)), (a_t_firsts, .inl (E.2.1, 8, .inl v_t_firsts)), (a_t_lasts, .inl (E.2.1, 8, .inl v_t_lasts)), (a_t_minutes, .inl (E.2.1, 8, .inl v_t_minutes)), (a_o1, .inr (1, [.ref a_o1_kinds, .ref a_o1_depths, .ref a_o1_lives, .ref a_o1_stops])), (a_o1_kinds, .inl (E.2.1, 108, .inl v_o1_kinds)), (a_o1_depths, .inl (E.2.1, 108, .inl v_o1_depths)), (a_o1_lives, .inl (E.2.1, 108, .inl v_o1_lives)), (a_o1_stops, .inl (E.2.2.1, 108, .inl v_o1_stops))] (some u.1) [(a_t, .inr (3, [.ref a_t_spots, .ref a_t_tones, .ref a_t_firsts, .ref a_t_lasts, .ref a_t_minutes, .int v_t_size, .int u.2.2.2.2])), (a_t_spots, .inl (E.2.1, 8, .inl v_t_spots)), (a_t_tones, .inl (E.2.1, 8, .inl v_t_tones)), (a_t_firsts, .inl (E.2.1, 8, .inl u.2.1)), (a_t_lasts, .inl (E.2.1, 8, .inl u.2.2.1)), (a_t_minutes, .inl (E.2.1, 8, .inl u.2.2.2.1)), (a_o1, .inr (1, [.ref a_o1_kinds, .ref a_o1_depths, .ref a_o1_lives, .ref a_o1_stops])), (a_o1_kinds, .inl (E.2.1, 108, .inl v_o1_kinds)), (a_o1_depths, .inl (E.2.1, 108, .inl v_o1_depths)), (a_o1_lives, .inl (E.2.1, 108, .inl v_o1_lives)), (a_o1_stops, .inl (E.2.2.1, 108, .inl v_o1_stops))] := by
  refine zM_int (ty := .boolean) (cc := cX3_plan) (nL := 6) (by decide) (Nat.le_of_ble_eq_true rfl) ?_
  intro p e R s m args below meth c A Q ls hRf hRl hx hb hml hown hK hA hP hD hS hl ret
  have hT := hK.2
  have hown : s.vm.findClass RX3 = some m.cls := hown
  have hl : lv_has ls 6 [(0, .ref a_t), (1, .ref a_o1), (2, .int p2)] := hl
  have hw3 : ∀ w ∈ u_ws RX3 TX3 7, w.before args s = true := fun w h => hT w (zl_X3 w h) args
  have h := hf
  unfold fX3_plan at h
  refine lv_aload_n (pc := 0) hx hb dX3_plan_0 rfl (lv_at hl 0 rfl) ?_
  refine lv_iconst (pc := 1) (v := (0 : Int32)) hx hb dX3_plan_1 (by decide) ?_
  refine va_put (pc := 2) (ci := 3) (v := .int (0 : Int32)) (ty := .int) (C := RX3) (T := TX3) (N := 7) hx hb hw3 (fun _ h9 => h9) tyX3 tyX3_ok nmX3 hown hK.1 hP hD hS 0 rfl rfl 6 (by decide) (hT _ zw94 _) (fun _ h9 => h9) rfl (tyX3_ok 6 (by decide)) rfl rfl (Nat.le_of_ble_eq_true rfl) dX3_plan_2 (fun H locs hP hD hS => ?_)
  have hP : va_P E.1 vwCl [(a_t, .inr (3, [.ref a_t_spots, .ref a_t_tones, .ref a_t_firsts, .ref a_t_lasts, .ref a_t_minutes, .int v_t_size, .int (0 : Int32)])), (a_t_spots, .inl (E.2.1, 8, .inl v_t_spots)), (a_t_tones, .inl (E.2.1, 8, .inl v_t_tones)), (a_t_firsts, .inl (E.2.1, 8, .inl v_t_firsts)), (a_t_lasts, .inl (E.2.1, 8, .inl v_t_lasts)), (a_t_minutes, .inl (E.2.1, 8, .inl v_t_minutes)), (a_o1, .inr (1, [.ref a_o1_kinds, .ref a_o1_depths, .ref a_o1_lives, .ref a_o1_stops])), (a_o1_kinds, .inl (E.2.1, 108, .inl v_o1_kinds)), (a_o1_depths, .inl (E.2.1, 108, .inl v_o1_depths)), (a_o1_lives, .inl (E.2.1, 108, .inl v_o1_lives)), (a_o1_stops, .inl (E.2.2.1, 108, .inl v_o1_stops))] H := hP
  have hD : va_D A [(a_t, .inr (3, [.ref a_t_spots, .ref a_t_tones, .ref a_t_firsts, .ref a_t_lasts, .ref a_t_minutes, .int v_t_size, .int (0 : Int32)])), (a_t_spots, .inl (E.2.1, 8, .inl v_t_spots)), (a_t_tones, .inl (E.2.1, 8, .inl v_t_tones)), (a_t_firsts, .inl (E.2.1, 8, .inl v_t_firsts)), (a_t_lasts, .inl (E.2.1, 8, .inl v_t_lasts)), (a_t_minutes, .inl (E.2.1, 8, .inl v_t_minutes)), (a_o1, .inr (1, [.ref a_o1_kinds, .ref a_o1_depths, .ref a_o1_lives, .ref a_o1_stops])), (a_o1_kinds, .inl (E.2.1, 108, .inl v_o1_kinds)), (a_o1_depths, .inl (E.2.1, 108, .inl v_o1_depths)), (a_o1_lives, .inl (E.2.1, 108, .inl v_o1_lives)), (a_o1_stops, .inl (E.2.2.1, 108, .inl v_o1_stops))] := hD
  refine lv_aload_n (pc := 5) hx hb dX3_plan_5 rfl (lv_at hl 0 rfl) ?_
  refine lv_aload_n (pc := 6) hx hb dX3_plan_6 rfl (lv_at hl 1 rfl) ?_
  refine lv_iload_n (pc := 7) hx hb dX3_plan_7 rfl (lv_at hl 2 rfl) ?_
  obtain ⟨u1, hg2, h⟩ := r_bind h
  refine z_callV (pc := 8) (n := 2) (o := some u1.1) (As := [.ref a_o1, .int p2]) (rest := []) (ci := 3) (q0 := 0) (wc := [(a_t, .inr (3, [.ref a_t_spots, .ref a_t_tones, .ref a_t_firsts, .ref a_t_lasts, .ref a_t_minutes, .int v_t_size, .int (0 : Int32)])), (a_t_spots, .inl (E.2.1, 8, .inl v_t_spots)), (a_t_tones, .inl (E.2.1, 8, .inl v_t_tones)), (a_t_firsts, .inl (E.2.1, 8, .inl v_t_firsts)), (a_t_lasts, .inl (E.2.1, 8, .inl v_t_lasts)), (a_o1, .inr (1, [.ref a_o1_kinds, .ref a_o1_depths, .ref a_o1_lives, .ref a_o1_stops])), (a_o1_kinds, .inl (E.2.1, 108, .inl v_o1_kinds)), (a_o1_depths, .inl (E.2.1, 108, .inl v_o1_depths)), (a_o1_lives, .inl (E.2.1, 108, .inl v_o1_lives)), (a_o1_stops, .inl (E.2.2.1, 108, .inl v_o1_stops))]) (wc' := [(a_t, .inr (3, [.ref a_t_spots, .ref a_t_tones, .ref a_t_firsts, .ref a_t_lasts, .ref a_t_minutes, .int v_t_size, .int (0 : Int32)])), (a_t_spots, .inl (E.2.1, 8, .inl v_t_spots)), (a_t_tones, .inl (E.2.1, 8, .inl v_t_tones)), (a_t_firsts, .inl (E.2.1, 8, .inl u1.2.1)), (a_t_lasts, .inl (E.2.1, 8, .inl u1.2.2)), (a_o1, .inr (1, [.ref a_o1_kinds, .ref a_o1_depths, .ref a_o1_lives, .ref a_o1_stops])), (a_o1_kinds, .inl (E.2.1, 108, .inl v_o1_kinds)), (a_o1_depths, .inl (E.2.1, 108, .inl v_o1_depths)), (a_o1_lives, .inl (E.2.1, 108, .inl v_o1_lives)), (a_o1_stops, .inl (E.2.2.1, 108, .inl v_o1_stops))]) (wr := [(a_t_minutes, .inl (E.2.1, 8, .inl v_t_minutes))]) hx hb hml hown hK hA hP hD hS hl.1 ⟨Nat.zero_le _, Nat.zero_le _⟩ (mt_X3_findSpans E l a_t a_t_spots a_t_tones a_t_firsts a_t_lasts a_t_minutes a_o1 a_o1_kinds a_o1_depths a_o1_lives a_o1_stops v_t_size (0 : Int32) v_t_spots v_t_tones v_t_firsts v_t_lasts v_o1_kinds v_o1_depths v_o1_lives v_o1_stops p2 u1 hg2) zw95 zw96 zw97 zw88 zw98 (by decide +kernel) rfl ⟨rfl, rfl, Nat.le_trans (Nat.le_of_ble_eq_true rfl) hRf, Nat.le_trans (Nat.le_of_ble_eq_true rfl) hRl⟩ [0, 1, 2, 3, 4, 6, 7, 8, 9, 10] [5] (by decide) rfl rfl (by decide) (by decide) rfl rfl rfl (Nat.le_of_ble_eq_true rfl) dX3_plan_8 (fun H locs hP hD hS => ?_)
  have hP : va_P E.1 vwCl [(a_t_minutes, .inl (E.2.1, 8, .inl v_t_minutes)), (a_t, .inr (3, [.ref a_t_spots, .ref a_t_tones, .ref a_t_firsts, .ref a_t_lasts, .ref a_t_minutes, .int v_t_size, .int (0 : Int32)])), (a_t_spots, .inl (E.2.1, 8, .inl v_t_spots)), (a_t_tones, .inl (E.2.1, 8, .inl v_t_tones)), (a_t_firsts, .inl (E.2.1, 8, .inl u1.2.1)), (a_t_lasts, .inl (E.2.1, 8, .inl u1.2.2)), (a_o1, .inr (1, [.ref a_o1_kinds, .ref a_o1_depths, .ref a_o1_lives, .ref a_o1_stops])), (a_o1_kinds, .inl (E.2.1, 108, .inl v_o1_kinds)), (a_o1_depths, .inl (E.2.1, 108, .inl v_o1_depths)), (a_o1_lives, .inl (E.2.1, 108, .inl v_o1_lives)), (a_o1_stops, .inl (E.2.2.1, 108, .inl v_o1_stops))] H := hP
  have hD : va_D A [(a_t_minutes, .inl (E.2.1, 8, .inl v_t_minutes)), (a_t, .inr (3, [.ref a_t_spots, .ref a_t_tones, .ref a_t_firsts, .ref a_t_lasts, .ref a_t_minutes, .int v_t_size, .int (0 : Int32)])), (a_t_spots, .inl (E.2.1, 8, .inl v_t_spots)), (a_t_tones, .inl (E.2.1, 8, .inl v_t_tones)), (a_t_firsts, .inl (E.2.1, 8, .inl u1.2.1)), (a_t_lasts, .inl (E.2.1, 8, .inl u1.2.2)), (a_o1, .inr (1, [.ref a_o1_kinds, .ref a_o1_depths, .ref a_o1_lives, .ref a_o1_stops])), (a_o1_kinds, .inl (E.2.1, 108, .inl v_o1_kinds)), (a_o1_depths, .inl (E.2.1, 108, .inl v_o1_depths)), (a_o1_lives, .inl (E.2.1, 108, .inl v_o1_lives)), (a_o1_stops, .inl (E.2.2.1, 108, .inl v_o1_stops))] := hD
  refine lv_if_ne (pc := 11) (tgt := 16) hx hb dX3_plan_11 (by decide) (fun c3 => ?_) (fun c3 => ?_)
  · have h := r_neg h c3
    refine lv_aload_n (pc := 16) hx hb dX3_plan_16 rfl (lv_at hl 0 rfl) ?_
    refine lv_iconst (pc := 17) (v := (-1 : Int32)) hx hb dX3_plan_17 (by decide) ?_
    obtain ⟨u4, hg5, h⟩ := r_bind h
    refine z_callV (pc := 18) (n := 1) (o := some u4) (As := [.int (-1 : Int32)]) (rest := []) (ci := 3) (q0 := 0) (wc := [(a_t, .inr (3, [.ref a_t_spots, .ref a_t_tones, .ref a_t_firsts, .ref a_t_lasts, .ref a_t_minutes, .int v_t_size, .int (0 : Int32)])), (a_t_firsts, .inl (E.2.1, 8, .inl u1.2.1)), (a_t_lasts, .inl (E.2.1, 8, .inl u1.2.2))]) (wc' := [(a_t, .inr (3, [.ref a_t_spots, .ref a_t_tones, .ref a_t_firsts, .ref a_t_lasts, .ref a_t_minutes, .int v_t_size, .int (0 : Int32)])), (a_t_firsts, .inl (E.2.1, 8, .inl u1.2.1)), (a_t_lasts, .inl (E.2.1, 8, .inl u1.2.2))]) (wr := [(a_t_minutes, .inl (E.2.1, 8, .inl v_t_minutes)), (a_t_spots, .inl (E.2.1, 8, .inl v_t_spots)), (a_t_tones, .inl (E.2.1, 8, .inl v_t_tones)), (a_o1, .inr (1, [.ref a_o1_kinds, .ref a_o1_depths, .ref a_o1_lives, .ref a_o1_stops])), (a_o1_kinds, .inl (E.2.1, 108, .inl v_o1_kinds)), (a_o1_depths, .inl (E.2.1, 108, .inl v_o1_depths)), (a_o1_lives, .inl (E.2.1, 108, .inl v_o1_lives)), (a_o1_stops, .inl (E.2.2.1, 108, .inl v_o1_stops))]) hx hb hml hown hK hA hP hD hS hl.1 ⟨Nat.zero_le _, Nat.zero_le _⟩ (mt_X3_fewestBehind E l a_t a_t_spots a_t_tones a_t_firsts a_t_lasts a_t_minutes v_t_size (0 : Int32) u1.2.1 u1.2.2 (-1 : Int32) u4 hg5) zw90 zw91 zw92 zw88 zw93 (by decide +kernel) rfl ⟨rfl, rfl, Nat.le_trans (Nat.le_of_ble_eq_true rfl) hRf, Nat.le_trans (Nat.le_of_ble_eq_true rfl) hRl⟩ [1, 4, 5] [0, 2, 3, 6, 7, 8, 9, 10] (by decide) rfl rfl (by decide) (by decide) rfl rfl rfl (Nat.le_of_ble_eq_true rfl) dX3_plan_18 (fun H locs hP hD hS => ?_)
    have hP : va_P E.1 vwCl [(a_t_minutes, .inl (E.2.1, 8, .inl v_t_minutes)), (a_t_spots, .inl (E.2.1, 8, .inl v_t_spots)), (a_t_tones, .inl (E.2.1, 8, .inl v_t_tones)), (a_o1, .inr (1, [.ref a_o1_kinds, .ref a_o1_depths, .ref a_o1_lives, .ref a_o1_stops])), (a_o1_kinds, .inl (E.2.1, 108, .inl v_o1_kinds)), (a_o1_depths, .inl (E.2.1, 108, .inl v_o1_depths)), (a_o1_lives, .inl (E.2.1, 108, .inl v_o1_lives)), (a_o1_stops, .inl (E.2.2.1, 108, .inl v_o1_stops)), (a_t, .inr (3, [.ref a_t_spots, .ref a_t_tones, .ref a_t_firsts, .ref a_t_lasts, .ref a_t_minutes, .int v_t_size, .int (0 : Int32)])), (a_t_firsts, .inl (E.2.1, 8, .inl u1.2.1)), (a_t_lasts, .inl (E.2.1, 8, .inl u1.2.2))] H := hP
    have hD : va_D A [(a_t_minutes, .inl (E.2.1, 8, .inl v_t_minutes)), (a_t_spots, .inl (E.2.1, 8, .inl v_t_spots)), (a_t_tones, .inl (E.2.1, 8, .inl v_t_tones)), (a_o1, .inr (1, [.ref a_o1_kinds, .ref a_o1_depths, .ref a_o1_lives, .ref a_o1_stops])), (a_o1_kinds, .inl (E.2.1, 108, .inl v_o1_kinds)), (a_o1_depths, .inl (E.2.1, 108, .inl v_o1_depths)), (a_o1_lives, .inl (E.2.1, 108, .inl v_o1_lives)), (a_o1_stops, .inl (E.2.2.1, 108, .inl v_o1_stops)), (a_t, .inr (3, [.ref a_t_spots, .ref a_t_tones, .ref a_t_firsts, .ref a_t_lasts, .ref a_t_minutes, .int v_t_size, .int (0 : Int32)])), (a_t_firsts, .inl (E.2.1, 8, .inl u1.2.1)), (a_t_lasts, .inl (E.2.1, 8, .inl u1.2.2))] := hD
    refine lv_istore_n (pc := 21) (lv' := [(3, .int u4), (0, .ref a_t), (1, .ref a_o1), (2, .int p2)]) hx hb dX3_plan_21 rfl hl (by decide) rfl (fun ls hl => ?_)
    refine lv_iconst (pc := 22) (v := (-1 : Int32)) hx hb dX3_plan_22 (by decide) ?_
    refine lv_istore (pc := 23) (lv' := [(4, .int (-1 : Int32)), (3, .int u4), (0, .ref a_t), (1, .ref a_o1), (2, .int p2)]) hx hb dX3_plan_23 hl (by decide) rfl (fun ls hl => ?_)
    refine lv_iload_n (pc := 25) hx hb dX3_plan_25 rfl (lv_at hl 1 rfl) ?_
    refine lv_istore (pc := 26) (lv' := [(5, .int u4), (4, .int (-1 : Int32)), (3, .int u4), (0, .ref a_t), (1, .ref a_o1), (2, .int p2)]) hx hb dX3_plan_26 hl (by decide) rfl (fun ls hl => ?_)
    have J28 : ∀ (n28 : Nat) (x28_4 : Int32) (x28_5 : Int32) (y28_t_planned : Int32) (y28_t_minutes : Nat → Int32) (H : Heap) (locs : List Loc) (ls : Array Slot), fX3_plan_28 v_t_size u1 n28 x28_4 x28_5 y28_t_planned y28_t_minutes = some u → lv_has ls 6 [(0, .ref a_t), (4, .int x28_4), (5, .int x28_5)] → va_P E.1 vwCl [(a_t, .inr (3, [.ref a_t_spots, .ref a_t_tones, .ref a_t_firsts, .ref a_t_lasts, .ref a_t_minutes, .int v_t_size, .int y28_t_planned])), (a_t_spots, .inl (E.2.1, 8, .inl v_t_spots)), (a_t_tones, .inl (E.2.1, 8, .inl v_t_tones)), (a_t_firsts, .inl (E.2.1, 8, .inl u1.2.1)), (a_t_lasts, .inl (E.2.1, 8, .inl u1.2.2)), (a_t_minutes, .inl (E.2.1, 8, .inl y28_t_minutes)), (a_o1, .inr (1, [.ref a_o1_kinds, .ref a_o1_depths, .ref a_o1_lives, .ref a_o1_stops])), (a_o1_kinds, .inl (E.2.1, 108, .inl v_o1_kinds)), (a_o1_depths, .inl (E.2.1, 108, .inl v_o1_depths)), (a_o1_lives, .inl (E.2.1, 108, .inl v_o1_lives)), (a_o1_stops, .inl (E.2.2.1, 108, .inl v_o1_stops))] H → va_D A [(a_t, .inr (3, [.ref a_t_spots, .ref a_t_tones, .ref a_t_firsts, .ref a_t_lasts, .ref a_t_minutes, .int v_t_size, .int y28_t_planned])), (a_t_spots, .inl (E.2.1, 8, .inl v_t_spots)), (a_t_tones, .inl (E.2.1, 8, .inl v_t_tones)), (a_t_firsts, .inl (E.2.1, 8, .inl u1.2.1)), (a_t_lasts, .inl (E.2.1, 8, .inl u1.2.2)), (a_t_minutes, .inl (E.2.1, 8, .inl y28_t_minutes)), (a_o1, .inr (1, [.ref a_o1_kinds, .ref a_o1_depths, .ref a_o1_lives, .ref a_o1_stops])), (a_o1_kinds, .inl (E.2.1, 108, .inl v_o1_kinds)), (a_o1_depths, .inl (E.2.1, 108, .inl v_o1_depths)), (a_o1_lives, .inl (E.2.1, 108, .inl v_o1_lives)), (a_o1_stops, .inl (E.2.2.1, 108, .inl v_o1_stops))] → va_S A s.heap H locs → W p l e R s m args below meth c H locs 0 0 Q (F0 m 28 ls []) := by
      intro n28
      induction n28 with
      | zero =>
        intro x28_4 x28_5 y28_t_planned y28_t_minutes H locs ls h hl hP hD hS
        rw [fX3_plan_28] at h
        cases h
      | succ n28 ih28 =>
        intro x28_4 x28_5 y28_t_planned y28_t_minutes H locs ls h hl hP hD hS
        rw [fX3_plan_28] at h
        refine lv_iload (pc := 28) hx hb dX3_plan_28 (lv_at hl 2 rfl) ?_
        refine lv_if_le (pc := 30) (tgt := 70) hx hb dX3_plan_30 (by decide) (fun c6 => ?_) (fun c6 => ?_)
        · have h := r_pos h c6
          refine lv_iconst (pc := 70) (v := (1 : Int32)) hx hb dX3_plan_70 (by decide) ?_
          obtain rfl := Option.some.inj h
          exact ret _ _ 71 _ zb1 dX3_plan_71 hP hD hS
        · have h := r_neg h c6
          refine lv_aload_n (pc := 33) hx hb dX3_plan_33 rfl (lv_at hl 0 rfl) ?_
          refine lv_iload (pc := 34) hx hb dX3_plan_34 (lv_at hl 1 rfl) ?_
          refine lv_iload (pc := 36) hx hb dX3_plan_36 (lv_at hl 2 rfl) ?_
          obtain ⟨u7, hg8, h⟩ := r_bind h
          refine z_callV (pc := 38) (n := 2) (o := some u7) (As := [.int x28_4, .int x28_5]) (rest := []) (ci := 3) (q0 := 0) (wc := [(a_t, .inr (3, [.ref a_t_spots, .ref a_t_tones, .ref a_t_firsts, .ref a_t_lasts, .ref a_t_minutes, .int v_t_size, .int y28_t_planned])), (a_t_firsts, .inl (E.2.1, 8, .inl u1.2.1)), (a_t_lasts, .inl (E.2.1, 8, .inl u1.2.2))]) (wc' := [(a_t, .inr (3, [.ref a_t_spots, .ref a_t_tones, .ref a_t_firsts, .ref a_t_lasts, .ref a_t_minutes, .int v_t_size, .int y28_t_planned])), (a_t_firsts, .inl (E.2.1, 8, .inl u1.2.1)), (a_t_lasts, .inl (E.2.1, 8, .inl u1.2.2))]) (wr := [(a_t_spots, .inl (E.2.1, 8, .inl v_t_spots)), (a_t_tones, .inl (E.2.1, 8, .inl v_t_tones)), (a_t_minutes, .inl (E.2.1, 8, .inl y28_t_minutes)), (a_o1, .inr (1, [.ref a_o1_kinds, .ref a_o1_depths, .ref a_o1_lives, .ref a_o1_stops])), (a_o1_kinds, .inl (E.2.1, 108, .inl v_o1_kinds)), (a_o1_depths, .inl (E.2.1, 108, .inl v_o1_depths)), (a_o1_lives, .inl (E.2.1, 108, .inl v_o1_lives)), (a_o1_stops, .inl (E.2.2.1, 108, .inl v_o1_stops))]) hx hb hml hown hK hA hP hD hS hl.1 ⟨Nat.zero_le _, Nat.zero_le _⟩ (mt_X3_leastMinuteBehind E l a_t a_t_spots a_t_tones a_t_firsts a_t_lasts a_t_minutes v_t_size y28_t_planned u1.2.1 u1.2.2 x28_4 x28_5 u7 hg8) zw99 zw100 zw101 zw88 zw102 (by decide +kernel) rfl ⟨rfl, rfl, Nat.le_trans (Nat.le_of_ble_eq_true rfl) hRf, Nat.le_trans (Nat.le_of_ble_eq_true rfl) hRl⟩ [0, 3, 4] [1, 2, 5, 6, 7, 8, 9, 10] (by decide) rfl rfl (by decide) (by decide) rfl rfl rfl (Nat.le_of_ble_eq_true rfl) dX3_plan_38 (fun H locs hP hD hS => ?_)
          have hP : va_P E.1 vwCl [(a_t_spots, .inl (E.2.1, 8, .inl v_t_spots)), (a_t_tones, .inl (E.2.1, 8, .inl v_t_tones)), (a_t_minutes, .inl (E.2.1, 8, .inl y28_t_minutes)), (a_o1, .inr (1, [.ref a_o1_kinds, .ref a_o1_depths, .ref a_o1_lives, .ref a_o1_stops])), (a_o1_kinds, .inl (E.2.1, 108, .inl v_o1_kinds)), (a_o1_depths, .inl (E.2.1, 108, .inl v_o1_depths)), (a_o1_lives, .inl (E.2.1, 108, .inl v_o1_lives)), (a_o1_stops, .inl (E.2.2.1, 108, .inl v_o1_stops)), (a_t, .inr (3, [.ref a_t_spots, .ref a_t_tones, .ref a_t_firsts, .ref a_t_lasts, .ref a_t_minutes, .int v_t_size, .int y28_t_planned])), (a_t_firsts, .inl (E.2.1, 8, .inl u1.2.1)), (a_t_lasts, .inl (E.2.1, 8, .inl u1.2.2))] H := hP
          have hD : va_D A [(a_t_spots, .inl (E.2.1, 8, .inl v_t_spots)), (a_t_tones, .inl (E.2.1, 8, .inl v_t_tones)), (a_t_minutes, .inl (E.2.1, 8, .inl y28_t_minutes)), (a_o1, .inr (1, [.ref a_o1_kinds, .ref a_o1_depths, .ref a_o1_lives, .ref a_o1_stops])), (a_o1_kinds, .inl (E.2.1, 108, .inl v_o1_kinds)), (a_o1_depths, .inl (E.2.1, 108, .inl v_o1_depths)), (a_o1_lives, .inl (E.2.1, 108, .inl v_o1_lives)), (a_o1_stops, .inl (E.2.2.1, 108, .inl v_o1_stops)), (a_t, .inr (3, [.ref a_t_spots, .ref a_t_tones, .ref a_t_firsts, .ref a_t_lasts, .ref a_t_minutes, .int v_t_size, .int y28_t_planned])), (a_t_firsts, .inl (E.2.1, 8, .inl u1.2.1)), (a_t_lasts, .inl (E.2.1, 8, .inl u1.2.2))] := hD
          refine lv_istore (pc := 41) (lv' := [(4, .int u7), (0, .ref a_t), (5, .int x28_5)]) hx hb dX3_plan_41 hl (by decide) rfl (fun ls hl => ?_)
          refine lv_aload_n (pc := 43) hx hb dX3_plan_43 rfl (lv_at hl 1 rfl) ?_
          refine va_get (pc := 44) (ci := 3) (C := RX3) (T := TX3) (N := 7) hx hb hw3 (fun _ h9 => h9) hown hK.1 hP 8 rfl rfl 4 (by decide) (hT _ zw103 _) (fun _ h9 => h9) rfl dX3_plan_44 ?_
          refine lv_aload_n (pc := 47) hx hb dX3_plan_47 rfl (lv_at hl 1 rfl) ?_
          refine va_get (pc := 48) (ci := 3) (C := RX3) (T := TX3) (N := 7) hx hb hw3 (fun _ h9 => h9) hown hK.1 hP 8 rfl rfl 6 (by decide) (hT _ zw94 _) (fun _ h9 => h9) rfl dX3_plan_48 ?_
          refine lv_iload (pc := 51) hx hb dX3_plan_51 (lv_at hl 0 rfl) ?_
          obtain ⟨hb9, h⟩ := r_in h
          refine va_iast (pc := 53) hx hb hK.1 hP hD hS 2 0 rfl rfl hb9 dX3_plan_53 (fun H locs hP hD hS => ?_)
          have hP : va_P E.1 vwCl [(a_t_spots, .inl (E.2.1, 8, .inl v_t_spots)), (a_t_tones, .inl (E.2.1, 8, .inl v_t_tones)), (a_t_minutes, .inl (E.2.1, 8, .inl (upd y28_t_minutes y28_t_planned.toNatClampNeg u7))), (a_o1, .inr (1, [.ref a_o1_kinds, .ref a_o1_depths, .ref a_o1_lives, .ref a_o1_stops])), (a_o1_kinds, .inl (E.2.1, 108, .inl v_o1_kinds)), (a_o1_depths, .inl (E.2.1, 108, .inl v_o1_depths)), (a_o1_lives, .inl (E.2.1, 108, .inl v_o1_lives)), (a_o1_stops, .inl (E.2.2.1, 108, .inl v_o1_stops)), (a_t, .inr (3, [.ref a_t_spots, .ref a_t_tones, .ref a_t_firsts, .ref a_t_lasts, .ref a_t_minutes, .int v_t_size, .int y28_t_planned])), (a_t_firsts, .inl (E.2.1, 8, .inl u1.2.1)), (a_t_lasts, .inl (E.2.1, 8, .inl u1.2.2))] H := hP
          have hD : va_D A [(a_t_spots, .inl (E.2.1, 8, .inl v_t_spots)), (a_t_tones, .inl (E.2.1, 8, .inl v_t_tones)), (a_t_minutes, .inl (E.2.1, 8, .inl (upd y28_t_minutes y28_t_planned.toNatClampNeg u7))), (a_o1, .inr (1, [.ref a_o1_kinds, .ref a_o1_depths, .ref a_o1_lives, .ref a_o1_stops])), (a_o1_kinds, .inl (E.2.1, 108, .inl v_o1_kinds)), (a_o1_depths, .inl (E.2.1, 108, .inl v_o1_depths)), (a_o1_lives, .inl (E.2.1, 108, .inl v_o1_lives)), (a_o1_stops, .inl (E.2.2.1, 108, .inl v_o1_stops)), (a_t, .inr (3, [.ref a_t_spots, .ref a_t_tones, .ref a_t_firsts, .ref a_t_lasts, .ref a_t_minutes, .int v_t_size, .int y28_t_planned])), (a_t_firsts, .inl (E.2.1, 8, .inl u1.2.1)), (a_t_lasts, .inl (E.2.1, 8, .inl u1.2.2))] := hD
          refine lv_aload_n (pc := 54) hx hb dX3_plan_54 rfl (lv_at hl 1 rfl) ?_
          refine lv_dup (pc := 55) hx hb dX3_plan_55 rfl ?_
          refine va_get (pc := 56) (ci := 3) (C := RX3) (T := TX3) (N := 7) hx hb hw3 (fun _ h9 => h9) hown hK.1 hP 8 rfl rfl 6 (by decide) (hT _ zw94 _) (fun _ h9 => h9) rfl dX3_plan_56 ?_
          refine lv_iconst (pc := 59) (v := (1 : Int32)) hx hb dX3_plan_59 (by decide) ?_
          refine lv_iadd (pc := 60) hx hb dX3_plan_60 ?_
          refine va_put (pc := 61) (ci := 3) (v := .int (y28_t_planned + (1 : Int32))) (ty := .int) (C := RX3) (T := TX3) (N := 7) hx hb hw3 (fun _ h9 => h9) tyX3 tyX3_ok nmX3 hown hK.1 hP hD hS 8 rfl rfl 6 (by decide) (hT _ zw94 _) (fun _ h9 => h9) rfl (tyX3_ok 6 (by decide)) rfl rfl (Nat.le_of_ble_eq_true rfl) dX3_plan_61 (fun H locs hP hD hS => ?_)
          have hP : va_P E.1 vwCl [(a_t_spots, .inl (E.2.1, 8, .inl v_t_spots)), (a_t_tones, .inl (E.2.1, 8, .inl v_t_tones)), (a_t_minutes, .inl (E.2.1, 8, .inl (upd y28_t_minutes y28_t_planned.toNatClampNeg u7))), (a_o1, .inr (1, [.ref a_o1_kinds, .ref a_o1_depths, .ref a_o1_lives, .ref a_o1_stops])), (a_o1_kinds, .inl (E.2.1, 108, .inl v_o1_kinds)), (a_o1_depths, .inl (E.2.1, 108, .inl v_o1_depths)), (a_o1_lives, .inl (E.2.1, 108, .inl v_o1_lives)), (a_o1_stops, .inl (E.2.2.1, 108, .inl v_o1_stops)), (a_t, .inr (3, [.ref a_t_spots, .ref a_t_tones, .ref a_t_firsts, .ref a_t_lasts, .ref a_t_minutes, .int v_t_size, .int (y28_t_planned + (1 : Int32))])), (a_t_firsts, .inl (E.2.1, 8, .inl u1.2.1)), (a_t_lasts, .inl (E.2.1, 8, .inl u1.2.2))] H := hP
          have hD : va_D A [(a_t_spots, .inl (E.2.1, 8, .inl v_t_spots)), (a_t_tones, .inl (E.2.1, 8, .inl v_t_tones)), (a_t_minutes, .inl (E.2.1, 8, .inl (upd y28_t_minutes y28_t_planned.toNatClampNeg u7))), (a_o1, .inr (1, [.ref a_o1_kinds, .ref a_o1_depths, .ref a_o1_lives, .ref a_o1_stops])), (a_o1_kinds, .inl (E.2.1, 108, .inl v_o1_kinds)), (a_o1_depths, .inl (E.2.1, 108, .inl v_o1_depths)), (a_o1_lives, .inl (E.2.1, 108, .inl v_o1_lives)), (a_o1_stops, .inl (E.2.2.1, 108, .inl v_o1_stops)), (a_t, .inr (3, [.ref a_t_spots, .ref a_t_tones, .ref a_t_firsts, .ref a_t_lasts, .ref a_t_minutes, .int v_t_size, .int (y28_t_planned + (1 : Int32))])), (a_t_firsts, .inl (E.2.1, 8, .inl u1.2.1)), (a_t_lasts, .inl (E.2.1, 8, .inl u1.2.2))] := hD
          refine lv_iinc (pc := 64) (v := (x28_5 + (-1 : Int32))) (lv' := [(5, .int (x28_5 + (-1 : Int32))), (4, .int u7), (0, .ref a_t)]) hx hb dX3_plan_64 hl (k := 2) rfl rfl (by decide) rfl (fun ls hl => ?_)
          refine lv_goto (pc := 67) (tgt := 28) hx hb dX3_plan_67 (by decide) ?_
          exact ih28 u7 (x28_5 + (-1 : Int32)) (y28_t_planned + (1 : Int32)) (upd y28_t_minutes y28_t_planned.toNatClampNeg u7) _ _ _ h (lv_sub hl [2, 1, 0] rfl) (hP.sub [8, 0, 1, 9, 10, 2, 3, 4, 5, 6, 7] rfl) (hD.sub [8, 0, 1, 9, 10, 2, 3, 4, 5, 6, 7] (by decide) rfl) hS
    exact J28 _ (-1 : Int32) u4 (0 : Int32) v_t_minutes _ _ _ h (lv_sub hl [3, 1, 0] rfl) (hP.sub [8, 1, 2, 9, 10, 0, 3, 4, 5, 6, 7] rfl) (hD.sub [8, 1, 2, 9, 10, 0, 3, 4, 5, 6, 7] (by decide) rfl) hS
  · have h := r_pos h c3
    refine lv_iconst (pc := 14) (v := (0 : Int32)) hx hb dX3_plan_14 (by decide) ?_
    obtain rfl := Option.some.inj h
    exact ret _ _ 15 _ zb0 dX3_plan_15 (hP.sub [1, 2, 3, 4, 5, 0, 6, 7, 8, 9, 10] rfl) (hD.sub [1, 2, 3, 4, 5, 0, 6, 7, 8, 9, 10] (by decide) rfl) hS
def fX3_stopDue_42 (x2_3 : Int32) (k2 : Int32 → (Nat → Int32) → Option ((Nat → Int32))) (y42_o1_stops : Nat → Int32) : Option ((Nat → Int32)) := k2 (x2_3 + (1 : Int32)) y42_o1_stops
def fX3_stopDue_2 (v_t_spots : Nat → Int32) (v_t_firsts : Nat → Int32) (v_t_lasts : Nat → Int32) (v_t_size : Int32) (p2 : Int32) : Nat → Int32 → (Nat → Int32) → Option ((Nat → Int32))
  | 0, _, _ => none
  | n2 + 1, x2_3, y2_o1_stops => (if v_t_size ≤ x2_3 then some y2_o1_stops else (if inb x2_3 8 = true then (if p2 < (v_t_firsts x2_3.toNatClampNeg) then fX3_stopDue_42 x2_3 (fX3_stopDue_2 v_t_spots v_t_firsts v_t_lasts v_t_size p2 n2) y2_o1_stops else (if (v_t_lasts x2_3.toNatClampNeg) < p2 then fX3_stopDue_42 x2_3 (fX3_stopDue_2 v_t_spots v_t_firsts v_t_lasts v_t_size p2 n2) y2_o1_stops else (if inb (v_t_spots x2_3.toNatClampNeg) 108 = true then fX3_stopDue_42 x2_3 (fX3_stopDue_2 v_t_spots v_t_firsts v_t_lasts v_t_size p2 n2) (upd y2_o1_stops (v_t_spots x2_3.toNatClampNeg).toNatClampNeg ((1 : Int32) &&& (1 : Int32))) else none))) else none))
def fX3_stopDue (v_t_spots : Nat → Int32) (v_t_firsts : Nat → Int32) (v_t_lasts : Nat → Int32) (v_t_size : Int32) (v_o1_stops : Nat → Int32) (p2 : Int32) : Option ((Nat → Int32)) := fX3_stopDue_2 v_t_spots v_t_firsts v_t_lasts v_t_size p2 100000 (0 : Int32) v_o1_stops
set_option maxHeartbeats 4000000 in
set_option maxRecDepth 100000 in
theorem mt_X3_stopDue (E : zE) (l : Launch) (a_t : Nat) (a_t_spots : Nat) (a_t_tones : Nat) (a_t_firsts : Nat) (a_t_lasts : Nat) (a_t_minutes : Nat) (a_o1 : Nat) (a_o1_kinds : Nat) (a_o1_depths : Nat) (a_o1_lives : Nat) (a_o1_stops : Nat) (v_t_size : Int32) (v_t_planned : Int32) (v_t_spots : Nat → Int32) (v_t_firsts : Nat → Int32) (v_t_lasts : Nat → Int32) (v_o1_stops : Nat → Int32) (p2 : Int32) (u : (Nat → Int32)) (hf : fX3_stopDue v_t_spots v_t_firsts v_t_lasts v_t_size v_o1_stops p2 = some u)   : zM E l yX3_stopDue [.code yX3_stopDue cX3_stopDue 4 none] { frames := 0, cells := 0, slots := 0, locals := 0 } [.ref a_t, .ref a_o1, .int p2] [(a_t, .inr (3, [.ref a_t_spots, .ref a_t_tones, .ref a_t_firsts, .ref a_t_lasts, .ref a_t_minutes, .int v_t_size, .int v_t_planned])), (a_t_spots, .inl (E.2.1, 8, .inl v_t_spots)), (a_t_firsts, .inl (E.2.1, 8, .inl v_t_firsts)), (a_t_lasts, .inl (E.2.1, 8, .inl v_t_lasts)), (a_o1, .inr (1, [.ref a_o1_kinds, .ref a_o1_depths, .ref a_o1_lives, .ref a_o1_stops])), (a_o1_stops, .inl (E.2.2.1, 108, .inl v_o1_stops))] (none) [(a_t, .inr (3, [.ref a_t_spots, .ref a_t_tones, .ref a_t_firsts, .ref a_t_lasts, .ref a_t_minutes, .int v_t_size, .int v_t_planned])), (a_t_spots, .inl (E.2.1, 8, .inl v_t_spots)), (a_t_firsts, .inl (E.2.1, 8, .inl v_t_firsts)), (a_t_lasts, .inl (E.2.1, 8, .inl v_t_lasts)), (a_o1, .inr (1, [.ref a_o1_kinds, .ref a_o1_depths, .ref a_o1_lives, .ref a_o1_stops])), (a_o1_stops, .inl (E.2.2.1, 108, .inl u))] := by
  refine zM_void (cc := cX3_stopDue) (nL := 4) (by decide) (Nat.le_of_ble_eq_true rfl) ?_
  intro p e R s m args below meth c A Q ls hRf hRl hx hb hml hown hK hA hP hD hS hl ret
  have hT := hK.2
  have hown : s.vm.findClass RX3 = some m.cls := hown
  have hl : lv_has ls 4 [(0, .ref a_t), (1, .ref a_o1), (2, .int p2)] := hl
  have hw3 : ∀ w ∈ u_ws RX3 TX3 7, w.before args s = true := fun w h => hT w (zl_X3 w h) args
  have hw1 : ∀ w ∈ u_ws RX1 TX1 4, w.before args s = true := fun w h => hT w (zl_X1 w h) args
  have h := hf
  unfold fX3_stopDue at h
  refine lv_iconst (pc := 0) (v := (0 : Int32)) hx hb dX3_stopDue_0 (by decide) ?_
  refine lv_istore_n (pc := 1) (lv' := [(3, .int (0 : Int32)), (0, .ref a_t), (1, .ref a_o1), (2, .int p2)]) hx hb dX3_stopDue_1 rfl hl (by decide) rfl (fun ls hl => ?_)
  have J2 : ∀ (n2 : Nat) (x2_3 : Int32) (y2_o1_stops : Nat → Int32) (H : Heap) (locs : List Loc) (ls : Array Slot), fX3_stopDue_2 v_t_spots v_t_firsts v_t_lasts v_t_size p2 n2 x2_3 y2_o1_stops = some u → lv_has ls 4 [(0, .ref a_t), (1, .ref a_o1), (2, .int p2), (3, .int x2_3)] → va_P E.1 vwCl [(a_t, .inr (3, [.ref a_t_spots, .ref a_t_tones, .ref a_t_firsts, .ref a_t_lasts, .ref a_t_minutes, .int v_t_size, .int v_t_planned])), (a_t_spots, .inl (E.2.1, 8, .inl v_t_spots)), (a_t_firsts, .inl (E.2.1, 8, .inl v_t_firsts)), (a_t_lasts, .inl (E.2.1, 8, .inl v_t_lasts)), (a_o1, .inr (1, [.ref a_o1_kinds, .ref a_o1_depths, .ref a_o1_lives, .ref a_o1_stops])), (a_o1_stops, .inl (E.2.2.1, 108, .inl y2_o1_stops))] H → va_D A [(a_t, .inr (3, [.ref a_t_spots, .ref a_t_tones, .ref a_t_firsts, .ref a_t_lasts, .ref a_t_minutes, .int v_t_size, .int v_t_planned])), (a_t_spots, .inl (E.2.1, 8, .inl v_t_spots)), (a_t_firsts, .inl (E.2.1, 8, .inl v_t_firsts)), (a_t_lasts, .inl (E.2.1, 8, .inl v_t_lasts)), (a_o1, .inr (1, [.ref a_o1_kinds, .ref a_o1_depths, .ref a_o1_lives, .ref a_o1_stops])), (a_o1_stops, .inl (E.2.2.1, 108, .inl y2_o1_stops))] → va_S A s.heap H locs → W p l e R s m args below meth c H locs 0 0 Q (F0 m 2 ls []) := by
    intro n2
    induction n2 with
    | zero =>
      intro x2_3 y2_o1_stops H locs ls h hl hP hD hS
      rw [fX3_stopDue_2] at h
      cases h
    | succ n2 ih2 =>
      intro x2_3 y2_o1_stops H locs ls h hl hP hD hS
      rw [fX3_stopDue_2] at h
      refine lv_iload_n (pc := 2) hx hb dX3_stopDue_2 rfl (lv_at hl 3 rfl) ?_
      refine lv_aload_n (pc := 3) hx hb dX3_stopDue_3 rfl (lv_at hl 0 rfl) ?_
      refine va_get (pc := 4) (ci := 3) (C := RX3) (T := TX3) (N := 7) hx hb hw3 (fun _ h9 => h9) hown hK.1 hP 0 rfl rfl 5 (by decide) (hT _ zw71 _) (fun _ h9 => h9) rfl dX3_stopDue_4 ?_
      refine lv_icmp_ge (pc := 7) (tgt := 48) hx hb dX3_stopDue_7 (by decide) (fun c1 => ?_) (fun c1 => ?_)
      · have h := r_pos h c1
        obtain rfl := Option.some.inj h
        exact ret _ _ 48 _ dX3_stopDue_48 hP hD hS
      · have h := r_neg h c1
        refine lv_aload_n (pc := 10) hx hb dX3_stopDue_10 rfl (lv_at hl 0 rfl) ?_
        refine va_get (pc := 11) (ci := 3) (C := RX3) (T := TX3) (N := 7) hx hb hw3 (fun _ h9 => h9) hown hK.1 hP 0 rfl rfl 2 (by decide) (hT _ zw74 _) (fun _ h9 => h9) rfl dX3_stopDue_11 ?_
        refine lv_iload_n (pc := 14) hx hb dX3_stopDue_14 rfl (lv_at hl 3 rfl) ?_
        obtain ⟨hb2, h⟩ := r_in h
        refine va_iald (pc := 15) hx hb hK.1 hP 2 0 rfl rfl hb2 dX3_stopDue_15 ?_
        refine lv_iload_n (pc := 16) hx hb dX3_stopDue_16 rfl (lv_at hl 2 rfl) ?_
        have J42 : ∀ (y42_o1_stops : Nat → Int32) (H : Heap) (locs : List Loc) (ls : Array Slot), fX3_stopDue_42 x2_3 (fX3_stopDue_2 v_t_spots v_t_firsts v_t_lasts v_t_size p2 n2) y42_o1_stops = some u → lv_has ls 4 [(0, .ref a_t), (1, .ref a_o1), (2, .int p2), (3, .int x2_3)] → va_P E.1 vwCl [(a_t, .inr (3, [.ref a_t_spots, .ref a_t_tones, .ref a_t_firsts, .ref a_t_lasts, .ref a_t_minutes, .int v_t_size, .int v_t_planned])), (a_t_spots, .inl (E.2.1, 8, .inl v_t_spots)), (a_t_firsts, .inl (E.2.1, 8, .inl v_t_firsts)), (a_t_lasts, .inl (E.2.1, 8, .inl v_t_lasts)), (a_o1, .inr (1, [.ref a_o1_kinds, .ref a_o1_depths, .ref a_o1_lives, .ref a_o1_stops])), (a_o1_stops, .inl (E.2.2.1, 108, .inl y42_o1_stops))] H → va_D A [(a_t, .inr (3, [.ref a_t_spots, .ref a_t_tones, .ref a_t_firsts, .ref a_t_lasts, .ref a_t_minutes, .int v_t_size, .int v_t_planned])), (a_t_spots, .inl (E.2.1, 8, .inl v_t_spots)), (a_t_firsts, .inl (E.2.1, 8, .inl v_t_firsts)), (a_t_lasts, .inl (E.2.1, 8, .inl v_t_lasts)), (a_o1, .inr (1, [.ref a_o1_kinds, .ref a_o1_depths, .ref a_o1_lives, .ref a_o1_stops])), (a_o1_stops, .inl (E.2.2.1, 108, .inl y42_o1_stops))] → va_S A s.heap H locs → W p l e R s m args below meth c H locs 0 0 Q (F0 m 42 ls []) := by
          intro y42_o1_stops H locs ls h hl hP hD hS
          unfold fX3_stopDue_42 at h
          refine lv_iinc (pc := 42) (v := (x2_3 + (1 : Int32))) (lv' := [(3, .int (x2_3 + (1 : Int32))), (0, .ref a_t), (1, .ref a_o1), (2, .int p2)]) hx hb dX3_stopDue_42 hl (k := 3) rfl rfl (by decide) rfl (fun ls hl => ?_)
          refine lv_goto (pc := 45) (tgt := 2) hx hb dX3_stopDue_45 (by decide) ?_
          exact ih2 (x2_3 + (1 : Int32)) y42_o1_stops _ _ _ h (lv_sub hl [1, 2, 3, 0] rfl) hP hD hS
        refine lv_icmp_gt (pc := 17) (tgt := 42) hx hb dX3_stopDue_17 (by decide) (fun c3 => ?_) (fun c3 => ?_)
        · have h := r_pos h c3
          exact J42 y2_o1_stops _ _ _ h hl hP hD hS
        · have h := r_neg h c3
          refine lv_iload_n (pc := 20) hx hb dX3_stopDue_20 rfl (lv_at hl 2 rfl) ?_
          refine lv_aload_n (pc := 21) hx hb dX3_stopDue_21 rfl (lv_at hl 0 rfl) ?_
          refine va_get (pc := 22) (ci := 3) (C := RX3) (T := TX3) (N := 7) hx hb hw3 (fun _ h9 => h9) hown hK.1 hP 0 rfl rfl 3 (by decide) (hT _ zw79 _) (fun _ h9 => h9) rfl dX3_stopDue_22 ?_
          refine lv_iload_n (pc := 25) hx hb dX3_stopDue_25 rfl (lv_at hl 3 rfl) ?_
          refine va_iald (pc := 26) hx hb hK.1 hP 3 0 rfl rfl hb2 dX3_stopDue_26 ?_
          refine lv_icmp_gt (pc := 27) (tgt := 42) hx hb dX3_stopDue_27 (by decide) (fun c4 => ?_) (fun c4 => ?_)
          · have h := r_pos h c4
            exact J42 y2_o1_stops _ _ _ h hl hP hD hS
          · have h := r_neg h c4
            refine lv_aload_n (pc := 30) hx hb dX3_stopDue_30 rfl (lv_at hl 1 rfl) ?_
            refine va_getN (pc := 31) (ci := 1) (C := RX1) (T := TX1) (N := 4) hx hb hw1 (fun _ h9 => h9) hown hK.1 hP 4 rfl rfl 3 (by decide) (hT _ zw84 _) (fun _ h9 => h9) rfl dX3_stopDue_31 ?_
            refine lv_aload_n (pc := 34) hx hb dX3_stopDue_34 rfl (lv_at hl 0 rfl) ?_
            refine va_get (pc := 35) (ci := 3) (C := RX3) (T := TX3) (N := 7) hx hb hw3 (fun _ h9 => h9) hown hK.1 hP 0 rfl rfl 0 (by decide) (hT _ zw72 _) (fun _ h9 => h9) rfl dX3_stopDue_35 ?_
            refine lv_iload_n (pc := 38) hx hb dX3_stopDue_38 rfl (lv_at hl 3 rfl) ?_
            refine va_iald (pc := 39) hx hb hK.1 hP 1 0 rfl rfl hb2 dX3_stopDue_39 ?_
            refine lv_iconst (pc := 40) (v := (1 : Int32)) hx hb dX3_stopDue_40 (by decide) ?_
            obtain ⟨hb5, h⟩ := r_in h
            refine va_zast (pc := 41) hx hb hK.1 hP hD hS 5 1 rfl rfl hb5 dX3_stopDue_41 (fun H locs hP hD hS => ?_)
            have hP : va_P E.1 vwCl [(a_t, .inr (3, [.ref a_t_spots, .ref a_t_tones, .ref a_t_firsts, .ref a_t_lasts, .ref a_t_minutes, .int v_t_size, .int v_t_planned])), (a_t_spots, .inl (E.2.1, 8, .inl v_t_spots)), (a_t_firsts, .inl (E.2.1, 8, .inl v_t_firsts)), (a_t_lasts, .inl (E.2.1, 8, .inl v_t_lasts)), (a_o1, .inr (1, [.ref a_o1_kinds, .ref a_o1_depths, .ref a_o1_lives, .ref a_o1_stops])), (a_o1_stops, .inl (E.2.2.1, 108, .inl (upd y2_o1_stops (v_t_spots x2_3.toNatClampNeg).toNatClampNeg ((1 : Int32) &&& (1 : Int32)))))] H := hP
            have hD : va_D A [(a_t, .inr (3, [.ref a_t_spots, .ref a_t_tones, .ref a_t_firsts, .ref a_t_lasts, .ref a_t_minutes, .int v_t_size, .int v_t_planned])), (a_t_spots, .inl (E.2.1, 8, .inl v_t_spots)), (a_t_firsts, .inl (E.2.1, 8, .inl v_t_firsts)), (a_t_lasts, .inl (E.2.1, 8, .inl v_t_lasts)), (a_o1, .inr (1, [.ref a_o1_kinds, .ref a_o1_depths, .ref a_o1_lives, .ref a_o1_stops])), (a_o1_stops, .inl (E.2.2.1, 108, .inl (upd y2_o1_stops (v_t_spots x2_3.toNatClampNeg).toNatClampNeg ((1 : Int32) &&& (1 : Int32)))))] := hD
            exact J42 (upd y2_o1_stops (v_t_spots x2_3.toNatClampNeg).toNatClampNeg ((1 : Int32) &&& (1 : Int32))) _ _ _ h hl hP hD hS
  exact J2 _ (0 : Int32) v_o1_stops _ _ _ h (lv_sub hl [1, 2, 3, 0] rfl) hP hD hS
def fX3_fulfil_5 (v_t_spots : Nat → Int32) (v_t_firsts : Nat → Int32) (v_t_lasts : Nat → Int32) (v_t_minutes : Nat → Int32) (v_t_size : Int32) (v_t_planned : Int32) (v_o1_kinds : Nat → Int32) (p2 : Int32) : Nat → Int32 → Int32 → (Nat → Int32) → (Nat → Int32) → (Nat → Int32) → Option (Int32 × (Nat → Int32) × (Nat → Int32) × (Nat → Int32))
  | 0, _, _, _, _, _ => none
  | n5 + 1, x5_3, x5_4, y5_o1_depths, y5_o1_lives, y5_o1_stops => (if v_t_planned ≤ x5_4 then some ((0 : Int32), y5_o1_depths, y5_o1_lives, y5_o1_stops) else (if inb (0 : Int32) 8 = true then (if inb x5_4 8 = true then ((fX1_bathePlate v_o1_kinds y5_o1_depths y5_o1_lives y5_o1_stops ((v_t_spots (0 : Int32).toNatClampNeg) / (36 : Int32)) p2 ((v_t_minutes x5_4.toNatClampNeg) - x5_3)).bind fun u4 => ((fX3_stopDue v_t_spots v_t_firsts v_t_lasts v_t_size y5_o1_stops (v_t_minutes x5_4.toNatClampNeg)).bind fun u6 => (fX3_fulfil_5 v_t_spots v_t_firsts v_t_lasts v_t_minutes v_t_size v_t_planned v_o1_kinds p2 n5) (v_t_minutes x5_4.toNatClampNeg) (x5_4 + (1 : Int32)) u4.1 u4.2 u6)) else none) else none))
def fX3_fulfil (v_t_spots : Nat → Int32) (v_t_firsts : Nat → Int32) (v_t_lasts : Nat → Int32) (v_t_minutes : Nat → Int32) (v_t_size : Int32) (v_t_planned : Int32) (v_o1_kinds : Nat → Int32) (v_o1_depths : Nat → Int32) (v_o1_lives : Nat → Int32) (v_o1_stops : Nat → Int32) (p2 : Int32) : Option (Int32 × (Nat → Int32) × (Nat → Int32) × (Nat → Int32)) := fX3_fulfil_5 v_t_spots v_t_firsts v_t_lasts v_t_minutes v_t_size v_t_planned v_o1_kinds p2 100000 (0 : Int32) (0 : Int32) v_o1_depths v_o1_lives v_o1_stops
set_option maxHeartbeats 4000000 in
set_option maxRecDepth 100000 in
theorem mt_X3_fulfil (E : zE) (l : Launch) (a_t : Nat) (a_t_spots : Nat) (a_t_tones : Nat) (a_t_firsts : Nat) (a_t_lasts : Nat) (a_t_minutes : Nat) (a_o1 : Nat) (a_o1_kinds : Nat) (a_o1_depths : Nat) (a_o1_lives : Nat) (a_o1_stops : Nat) (v_t_size : Int32) (v_t_planned : Int32) (v_t_spots : Nat → Int32) (v_t_firsts : Nat → Int32) (v_t_lasts : Nat → Int32) (v_t_minutes : Nat → Int32) (v_o1_kinds : Nat → Int32) (v_o1_depths : Nat → Int32) (v_o1_lives : Nat → Int32) (v_o1_stops : Nat → Int32) (p2 : Int32) (u : Int32 × (Nat → Int32) × (Nat → Int32) × (Nat → Int32)) (hf : fX3_fulfil v_t_spots v_t_firsts v_t_lasts v_t_minutes v_t_size v_t_planned v_o1_kinds v_o1_depths v_o1_lives v_o1_stops p2 = some u)   : zM E l yX3_fulfil [.code yX3_fulfil cX3_fulfil 5 none] { frames := 4, cells := 0, slots := 0, locals := 83 } [.ref a_t, .ref a_o1, .int p2] [(a_t, .inr (3, [.ref a_t_spots, .ref a_t_tones, .ref a_t_firsts, .ref a_t_lasts, .ref a_t_minutes, .int v_t_size, .int v_t_planned])), (a_t_spots, .inl (E.2.1, 8, .inl v_t_spots)), (a_t_firsts, .inl (E.2.1, 8, .inl v_t_firsts)), (a_t_lasts, .inl (E.2.1, 8, .inl v_t_lasts)), (a_t_minutes, .inl (E.2.1, 8, .inl v_t_minutes)), (a_o1, .inr (1, [.ref a_o1_kinds, .ref a_o1_depths, .ref a_o1_lives, .ref a_o1_stops])), (a_o1_kinds, .inl (E.2.1, 108, .inl v_o1_kinds)), (a_o1_depths, .inl (E.2.1, 108, .inl v_o1_depths)), (a_o1_lives, .inl (E.2.1, 108, .inl v_o1_lives)), (a_o1_stops, .inl (E.2.2.1, 108, .inl v_o1_stops))] (none) [(a_t, .inr (3, [.ref a_t_spots, .ref a_t_tones, .ref a_t_firsts, .ref a_t_lasts, .ref a_t_minutes, .int u.1, .int v_t_planned])), (a_t_spots, .inl (E.2.1, 8, .inl v_t_spots)), (a_t_firsts, .inl (E.2.1, 8, .inl v_t_firsts)), (a_t_lasts, .inl (E.2.1, 8, .inl v_t_lasts)), (a_t_minutes, .inl (E.2.1, 8, .inl v_t_minutes)), (a_o1, .inr (1, [.ref a_o1_kinds, .ref a_o1_depths, .ref a_o1_lives, .ref a_o1_stops])), (a_o1_kinds, .inl (E.2.1, 108, .inl v_o1_kinds)), (a_o1_depths, .inl (E.2.1, 108, .inl u.2.1)), (a_o1_lives, .inl (E.2.1, 108, .inl u.2.2.1)), (a_o1_stops, .inl (E.2.2.1, 108, .inl u.2.2.2))] := by
  refine zM_void (cc := cX3_fulfil) (nL := 5) (by decide) (Nat.le_of_ble_eq_true rfl) ?_
  intro p e R s m args below meth c A Q ls hRf hRl hx hb hml hown hK hA hP hD hS hl ret
  have hT := hK.2
  have hown : s.vm.findClass RX3 = some m.cls := hown
  have hl : lv_has ls 5 [(0, .ref a_t), (1, .ref a_o1), (2, .int p2)] := hl
  have hw3 : ∀ w ∈ u_ws RX3 TX3 7, w.before args s = true := fun w h => hT w (zl_X3 w h) args
  have h := hf
  unfold fX3_fulfil at h
  refine lv_iconst (pc := 0) (v := (0 : Int32)) hx hb dX3_fulfil_0 (by decide) ?_
  refine lv_istore_n (pc := 1) (lv' := [(3, .int (0 : Int32)), (0, .ref a_t), (1, .ref a_o1), (2, .int p2)]) hx hb dX3_fulfil_1 rfl hl (by decide) rfl (fun ls hl => ?_)
  refine lv_iconst (pc := 2) (v := (0 : Int32)) hx hb dX3_fulfil_2 (by decide) ?_
  refine lv_istore (pc := 3) (lv' := [(4, .int (0 : Int32)), (3, .int (0 : Int32)), (0, .ref a_t), (1, .ref a_o1), (2, .int p2)]) hx hb dX3_fulfil_3 hl (by decide) rfl (fun ls hl => ?_)
  have J5 : ∀ (n5 : Nat) (x5_3 : Int32) (x5_4 : Int32) (y5_o1_depths : Nat → Int32) (y5_o1_lives : Nat → Int32) (y5_o1_stops : Nat → Int32) (H : Heap) (locs : List Loc) (ls : Array Slot), fX3_fulfil_5 v_t_spots v_t_firsts v_t_lasts v_t_minutes v_t_size v_t_planned v_o1_kinds p2 n5 x5_3 x5_4 y5_o1_depths y5_o1_lives y5_o1_stops = some u → lv_has ls 5 [(0, .ref a_t), (1, .ref a_o1), (2, .int p2), (3, .int x5_3), (4, .int x5_4)] → va_P E.1 vwCl [(a_t, .inr (3, [.ref a_t_spots, .ref a_t_tones, .ref a_t_firsts, .ref a_t_lasts, .ref a_t_minutes, .int v_t_size, .int v_t_planned])), (a_t_spots, .inl (E.2.1, 8, .inl v_t_spots)), (a_t_firsts, .inl (E.2.1, 8, .inl v_t_firsts)), (a_t_lasts, .inl (E.2.1, 8, .inl v_t_lasts)), (a_t_minutes, .inl (E.2.1, 8, .inl v_t_minutes)), (a_o1, .inr (1, [.ref a_o1_kinds, .ref a_o1_depths, .ref a_o1_lives, .ref a_o1_stops])), (a_o1_kinds, .inl (E.2.1, 108, .inl v_o1_kinds)), (a_o1_depths, .inl (E.2.1, 108, .inl y5_o1_depths)), (a_o1_lives, .inl (E.2.1, 108, .inl y5_o1_lives)), (a_o1_stops, .inl (E.2.2.1, 108, .inl y5_o1_stops))] H → va_D A [(a_t, .inr (3, [.ref a_t_spots, .ref a_t_tones, .ref a_t_firsts, .ref a_t_lasts, .ref a_t_minutes, .int v_t_size, .int v_t_planned])), (a_t_spots, .inl (E.2.1, 8, .inl v_t_spots)), (a_t_firsts, .inl (E.2.1, 8, .inl v_t_firsts)), (a_t_lasts, .inl (E.2.1, 8, .inl v_t_lasts)), (a_t_minutes, .inl (E.2.1, 8, .inl v_t_minutes)), (a_o1, .inr (1, [.ref a_o1_kinds, .ref a_o1_depths, .ref a_o1_lives, .ref a_o1_stops])), (a_o1_kinds, .inl (E.2.1, 108, .inl v_o1_kinds)), (a_o1_depths, .inl (E.2.1, 108, .inl y5_o1_depths)), (a_o1_lives, .inl (E.2.1, 108, .inl y5_o1_lives)), (a_o1_stops, .inl (E.2.2.1, 108, .inl y5_o1_stops))] → va_S A s.heap H locs → W p l e R s m args below meth c H locs 0 0 Q (F0 m 5 ls []) := by
    intro n5
    induction n5 with
    | zero =>
      intro x5_3 x5_4 y5_o1_depths y5_o1_lives y5_o1_stops H locs ls h hl hP hD hS
      rw [fX3_fulfil_5] at h
      cases h
    | succ n5 ih5 =>
      intro x5_3 x5_4 y5_o1_depths y5_o1_lives y5_o1_stops H locs ls h hl hP hD hS
      rw [fX3_fulfil_5] at h
      refine lv_iload (pc := 5) hx hb dX3_fulfil_5 (lv_at hl 4 rfl) ?_
      refine lv_aload_n (pc := 7) hx hb dX3_fulfil_7 rfl (lv_at hl 0 rfl) ?_
      refine va_get (pc := 8) (ci := 3) (C := RX3) (T := TX3) (N := 7) hx hb hw3 (fun _ h9 => h9) hown hK.1 hP 0 rfl rfl 6 (by decide) (hT _ zw94 _) (fun _ h9 => h9) rfl dX3_fulfil_8 ?_
      refine lv_icmp_ge (pc := 11) (tgt := 57) hx hb dX3_fulfil_11 (by decide) (fun c1 => ?_) (fun c1 => ?_)
      · have h := r_pos h c1
        refine lv_aload_n (pc := 57) hx hb dX3_fulfil_57 rfl (lv_at hl 0 rfl) ?_
        refine lv_iconst (pc := 58) (v := (0 : Int32)) hx hb dX3_fulfil_58 (by decide) ?_
        refine va_put (pc := 59) (ci := 3) (v := .int (0 : Int32)) (ty := .int) (C := RX3) (T := TX3) (N := 7) hx hb hw3 (fun _ h9 => h9) tyX3 tyX3_ok nmX3 hown hK.1 hP hD hS 0 rfl rfl 5 (by decide) (hT _ zw71 _) (fun _ h9 => h9) rfl (tyX3_ok 5 (by decide)) rfl rfl (Nat.le_of_ble_eq_true rfl) dX3_fulfil_59 (fun H locs hP hD hS => ?_)
        have hP : va_P E.1 vwCl [(a_t, .inr (3, [.ref a_t_spots, .ref a_t_tones, .ref a_t_firsts, .ref a_t_lasts, .ref a_t_minutes, .int (0 : Int32), .int v_t_planned])), (a_t_spots, .inl (E.2.1, 8, .inl v_t_spots)), (a_t_firsts, .inl (E.2.1, 8, .inl v_t_firsts)), (a_t_lasts, .inl (E.2.1, 8, .inl v_t_lasts)), (a_t_minutes, .inl (E.2.1, 8, .inl v_t_minutes)), (a_o1, .inr (1, [.ref a_o1_kinds, .ref a_o1_depths, .ref a_o1_lives, .ref a_o1_stops])), (a_o1_kinds, .inl (E.2.1, 108, .inl v_o1_kinds)), (a_o1_depths, .inl (E.2.1, 108, .inl y5_o1_depths)), (a_o1_lives, .inl (E.2.1, 108, .inl y5_o1_lives)), (a_o1_stops, .inl (E.2.2.1, 108, .inl y5_o1_stops))] H := hP
        have hD : va_D A [(a_t, .inr (3, [.ref a_t_spots, .ref a_t_tones, .ref a_t_firsts, .ref a_t_lasts, .ref a_t_minutes, .int (0 : Int32), .int v_t_planned])), (a_t_spots, .inl (E.2.1, 8, .inl v_t_spots)), (a_t_firsts, .inl (E.2.1, 8, .inl v_t_firsts)), (a_t_lasts, .inl (E.2.1, 8, .inl v_t_lasts)), (a_t_minutes, .inl (E.2.1, 8, .inl v_t_minutes)), (a_o1, .inr (1, [.ref a_o1_kinds, .ref a_o1_depths, .ref a_o1_lives, .ref a_o1_stops])), (a_o1_kinds, .inl (E.2.1, 108, .inl v_o1_kinds)), (a_o1_depths, .inl (E.2.1, 108, .inl y5_o1_depths)), (a_o1_lives, .inl (E.2.1, 108, .inl y5_o1_lives)), (a_o1_stops, .inl (E.2.2.1, 108, .inl y5_o1_stops))] := hD
        obtain rfl := Option.some.inj h
        exact ret _ _ 62 _ dX3_fulfil_62 hP hD hS
      · have h := r_neg h c1
        refine lv_aload_n (pc := 14) hx hb dX3_fulfil_14 rfl (lv_at hl 1 rfl) ?_
        refine lv_aload_n (pc := 15) hx hb dX3_fulfil_15 rfl (lv_at hl 0 rfl) ?_
        refine va_get (pc := 16) (ci := 3) (C := RX3) (T := TX3) (N := 7) hx hb hw3 (fun _ h9 => h9) hown hK.1 hP 0 rfl rfl 0 (by decide) (hT _ zw72 _) (fun _ h9 => h9) rfl dX3_fulfil_16 ?_
        refine lv_iconst (pc := 19) (v := (0 : Int32)) hx hb dX3_fulfil_19 (by decide) ?_
        obtain ⟨hb2, h⟩ := r_in h
        refine va_iald (pc := 20) hx hb hK.1 hP 1 0 rfl rfl hb2 dX3_fulfil_20 ?_
        refine lv_bipush (pc := 21) (v := (36 : Int32)) hx hb dX3_fulfil_21 (by decide) ?_
        refine lv_idiv (pc := 23) hx hb dX3_fulfil_23 (by decide) ?_
        refine lv_iload_n (pc := 24) hx hb dX3_fulfil_24 rfl (lv_at hl 2 rfl) ?_
        refine lv_aload_n (pc := 25) hx hb dX3_fulfil_25 rfl (lv_at hl 0 rfl) ?_
        refine va_get (pc := 26) (ci := 3) (C := RX3) (T := TX3) (N := 7) hx hb hw3 (fun _ h9 => h9) hown hK.1 hP 0 rfl rfl 4 (by decide) (hT _ zw103 _) (fun _ h9 => h9) rfl dX3_fulfil_26 ?_
        refine lv_iload (pc := 29) hx hb dX3_fulfil_29 (lv_at hl 4 rfl) ?_
        obtain ⟨hb3, h⟩ := r_in h
        refine va_iald (pc := 31) hx hb hK.1 hP 4 0 rfl rfl hb3 dX3_fulfil_31 ?_
        refine lv_iload_n (pc := 32) hx hb dX3_fulfil_32 rfl (lv_at hl 3 rfl) ?_
        refine lv_isub (pc := 33) hx hb dX3_fulfil_33 ?_
        obtain ⟨u4, hg5, h⟩ := r_bind h
        refine z_callV (pc := 34) (n := 3) (o := none) (As := [.int ((v_t_spots (0 : Int32).toNatClampNeg) / (36 : Int32)), .int p2, .int ((v_t_minutes x5_4.toNatClampNeg) - x5_3)]) (rest := []) (ci := 1) (q0 := 0) (wc := [(a_o1, .inr (1, [.ref a_o1_kinds, .ref a_o1_depths, .ref a_o1_lives, .ref a_o1_stops])), (a_o1_kinds, .inl (E.2.1, 108, .inl v_o1_kinds)), (a_o1_depths, .inl (E.2.1, 108, .inl y5_o1_depths)), (a_o1_lives, .inl (E.2.1, 108, .inl y5_o1_lives)), (a_o1_stops, .inl (E.2.2.1, 108, .inl y5_o1_stops))]) (wc' := [(a_o1, .inr (1, [.ref a_o1_kinds, .ref a_o1_depths, .ref a_o1_lives, .ref a_o1_stops])), (a_o1_kinds, .inl (E.2.1, 108, .inl v_o1_kinds)), (a_o1_depths, .inl (E.2.1, 108, .inl u4.1)), (a_o1_lives, .inl (E.2.1, 108, .inl u4.2)), (a_o1_stops, .inl (E.2.2.1, 108, .inl y5_o1_stops))]) (wr := [(a_t, .inr (3, [.ref a_t_spots, .ref a_t_tones, .ref a_t_firsts, .ref a_t_lasts, .ref a_t_minutes, .int v_t_size, .int v_t_planned])), (a_t_spots, .inl (E.2.1, 8, .inl v_t_spots)), (a_t_firsts, .inl (E.2.1, 8, .inl v_t_firsts)), (a_t_lasts, .inl (E.2.1, 8, .inl v_t_lasts)), (a_t_minutes, .inl (E.2.1, 8, .inl v_t_minutes))]) hx hb hml hown hK hA hP hD hS hl.1 ⟨Nat.zero_le _, Nat.zero_le _⟩ (mt_X1_bathePlate E l a_o1 a_o1_kinds a_o1_depths a_o1_lives a_o1_stops v_o1_kinds y5_o1_depths y5_o1_lives y5_o1_stops ((v_t_spots (0 : Int32).toNatClampNeg) / (36 : Int32)) p2 ((v_t_minutes x5_4.toNatClampNeg) - x5_3) u4 hg5) zw104 zw105 zw106 zw31 zw107 (by decide +kernel) rfl ⟨rfl, rfl, Nat.le_trans (Nat.le_of_ble_eq_true rfl) hRf, Nat.le_trans (Nat.le_of_ble_eq_true rfl) hRl⟩ [5, 6, 7, 8, 9] [0, 1, 2, 3, 4] (by decide) rfl rfl (by decide) (by decide) rfl rfl rfl (Nat.le_of_ble_eq_true rfl) dX3_fulfil_34 (fun H locs hP hD hS => ?_)
        have hP : va_P E.1 vwCl [(a_t, .inr (3, [.ref a_t_spots, .ref a_t_tones, .ref a_t_firsts, .ref a_t_lasts, .ref a_t_minutes, .int v_t_size, .int v_t_planned])), (a_t_spots, .inl (E.2.1, 8, .inl v_t_spots)), (a_t_firsts, .inl (E.2.1, 8, .inl v_t_firsts)), (a_t_lasts, .inl (E.2.1, 8, .inl v_t_lasts)), (a_t_minutes, .inl (E.2.1, 8, .inl v_t_minutes)), (a_o1, .inr (1, [.ref a_o1_kinds, .ref a_o1_depths, .ref a_o1_lives, .ref a_o1_stops])), (a_o1_kinds, .inl (E.2.1, 108, .inl v_o1_kinds)), (a_o1_depths, .inl (E.2.1, 108, .inl u4.1)), (a_o1_lives, .inl (E.2.1, 108, .inl u4.2)), (a_o1_stops, .inl (E.2.2.1, 108, .inl y5_o1_stops))] H := hP
        have hD : va_D A [(a_t, .inr (3, [.ref a_t_spots, .ref a_t_tones, .ref a_t_firsts, .ref a_t_lasts, .ref a_t_minutes, .int v_t_size, .int v_t_planned])), (a_t_spots, .inl (E.2.1, 8, .inl v_t_spots)), (a_t_firsts, .inl (E.2.1, 8, .inl v_t_firsts)), (a_t_lasts, .inl (E.2.1, 8, .inl v_t_lasts)), (a_t_minutes, .inl (E.2.1, 8, .inl v_t_minutes)), (a_o1, .inr (1, [.ref a_o1_kinds, .ref a_o1_depths, .ref a_o1_lives, .ref a_o1_stops])), (a_o1_kinds, .inl (E.2.1, 108, .inl v_o1_kinds)), (a_o1_depths, .inl (E.2.1, 108, .inl u4.1)), (a_o1_lives, .inl (E.2.1, 108, .inl u4.2)), (a_o1_stops, .inl (E.2.2.1, 108, .inl y5_o1_stops))] := hD
        refine lv_aload_n (pc := 37) hx hb dX3_fulfil_37 rfl (lv_at hl 0 rfl) ?_
        refine va_get (pc := 38) (ci := 3) (C := RX3) (T := TX3) (N := 7) hx hb hw3 (fun _ h9 => h9) hown hK.1 hP 0 rfl rfl 4 (by decide) (hT _ zw103 _) (fun _ h9 => h9) rfl dX3_fulfil_38 ?_
        refine lv_iload (pc := 41) hx hb dX3_fulfil_41 (lv_at hl 4 rfl) ?_
        refine va_iald (pc := 43) hx hb hK.1 hP 4 0 rfl rfl hb3 dX3_fulfil_43 ?_
        refine lv_istore_n (pc := 44) (lv' := [(3, .int (v_t_minutes x5_4.toNatClampNeg)), (0, .ref a_t), (1, .ref a_o1), (2, .int p2), (4, .int x5_4)]) hx hb dX3_fulfil_44 rfl hl (by decide) rfl (fun ls hl => ?_)
        refine lv_aload_n (pc := 45) hx hb dX3_fulfil_45 rfl (lv_at hl 1 rfl) ?_
        refine lv_aload_n (pc := 46) hx hb dX3_fulfil_46 rfl (lv_at hl 2 rfl) ?_
        refine lv_iload_n (pc := 47) hx hb dX3_fulfil_47 rfl (lv_at hl 0 rfl) ?_
        obtain ⟨u6, hg7, h⟩ := r_bind h
        refine z_callV (pc := 48) (n := 2) (o := none) (As := [.ref a_o1, .int (v_t_minutes x5_4.toNatClampNeg)]) (rest := []) (ci := 3) (q0 := 0) (wc := [(a_t, .inr (3, [.ref a_t_spots, .ref a_t_tones, .ref a_t_firsts, .ref a_t_lasts, .ref a_t_minutes, .int v_t_size, .int v_t_planned])), (a_t_spots, .inl (E.2.1, 8, .inl v_t_spots)), (a_t_firsts, .inl (E.2.1, 8, .inl v_t_firsts)), (a_t_lasts, .inl (E.2.1, 8, .inl v_t_lasts)), (a_o1, .inr (1, [.ref a_o1_kinds, .ref a_o1_depths, .ref a_o1_lives, .ref a_o1_stops])), (a_o1_stops, .inl (E.2.2.1, 108, .inl y5_o1_stops))]) (wc' := [(a_t, .inr (3, [.ref a_t_spots, .ref a_t_tones, .ref a_t_firsts, .ref a_t_lasts, .ref a_t_minutes, .int v_t_size, .int v_t_planned])), (a_t_spots, .inl (E.2.1, 8, .inl v_t_spots)), (a_t_firsts, .inl (E.2.1, 8, .inl v_t_firsts)), (a_t_lasts, .inl (E.2.1, 8, .inl v_t_lasts)), (a_o1, .inr (1, [.ref a_o1_kinds, .ref a_o1_depths, .ref a_o1_lives, .ref a_o1_stops])), (a_o1_stops, .inl (E.2.2.1, 108, .inl u6))]) (wr := [(a_t_minutes, .inl (E.2.1, 8, .inl v_t_minutes)), (a_o1_kinds, .inl (E.2.1, 108, .inl v_o1_kinds)), (a_o1_depths, .inl (E.2.1, 108, .inl u4.1)), (a_o1_lives, .inl (E.2.1, 108, .inl u4.2))]) hx hb hml hown hK hA hP hD hS hl.1 ⟨Nat.zero_le _, Nat.zero_le _⟩ (mt_X3_stopDue E l a_t a_t_spots a_t_tones a_t_firsts a_t_lasts a_t_minutes a_o1 a_o1_kinds a_o1_depths a_o1_lives a_o1_stops v_t_size v_t_planned v_t_spots v_t_firsts v_t_lasts y5_o1_stops (v_t_minutes x5_4.toNatClampNeg) u6 hg7) zw108 zw109 zw110 zw88 zw111 (by decide +kernel) rfl ⟨rfl, rfl, Nat.le_trans (Nat.le_of_ble_eq_true rfl) hRf, Nat.le_trans (Nat.le_of_ble_eq_true rfl) hRl⟩ [0, 1, 2, 3, 5, 9] [4, 6, 7, 8] (by decide) rfl rfl (by decide) (by decide) rfl rfl rfl (Nat.le_of_ble_eq_true rfl) dX3_fulfil_48 (fun H locs hP hD hS => ?_)
        have hP : va_P E.1 vwCl [(a_t_minutes, .inl (E.2.1, 8, .inl v_t_minutes)), (a_o1_kinds, .inl (E.2.1, 108, .inl v_o1_kinds)), (a_o1_depths, .inl (E.2.1, 108, .inl u4.1)), (a_o1_lives, .inl (E.2.1, 108, .inl u4.2)), (a_t, .inr (3, [.ref a_t_spots, .ref a_t_tones, .ref a_t_firsts, .ref a_t_lasts, .ref a_t_minutes, .int v_t_size, .int v_t_planned])), (a_t_spots, .inl (E.2.1, 8, .inl v_t_spots)), (a_t_firsts, .inl (E.2.1, 8, .inl v_t_firsts)), (a_t_lasts, .inl (E.2.1, 8, .inl v_t_lasts)), (a_o1, .inr (1, [.ref a_o1_kinds, .ref a_o1_depths, .ref a_o1_lives, .ref a_o1_stops])), (a_o1_stops, .inl (E.2.2.1, 108, .inl u6))] H := hP
        have hD : va_D A [(a_t_minutes, .inl (E.2.1, 8, .inl v_t_minutes)), (a_o1_kinds, .inl (E.2.1, 108, .inl v_o1_kinds)), (a_o1_depths, .inl (E.2.1, 108, .inl u4.1)), (a_o1_lives, .inl (E.2.1, 108, .inl u4.2)), (a_t, .inr (3, [.ref a_t_spots, .ref a_t_tones, .ref a_t_firsts, .ref a_t_lasts, .ref a_t_minutes, .int v_t_size, .int v_t_planned])), (a_t_spots, .inl (E.2.1, 8, .inl v_t_spots)), (a_t_firsts, .inl (E.2.1, 8, .inl v_t_firsts)), (a_t_lasts, .inl (E.2.1, 8, .inl v_t_lasts)), (a_o1, .inr (1, [.ref a_o1_kinds, .ref a_o1_depths, .ref a_o1_lives, .ref a_o1_stops])), (a_o1_stops, .inl (E.2.2.1, 108, .inl u6))] := hD
        refine lv_iinc (pc := 51) (v := (x5_4 + (1 : Int32))) (lv' := [(4, .int (x5_4 + (1 : Int32))), (3, .int (v_t_minutes x5_4.toNatClampNeg)), (0, .ref a_t), (1, .ref a_o1), (2, .int p2)]) hx hb dX3_fulfil_51 hl (k := 4) rfl rfl (by decide) rfl (fun ls hl => ?_)
        refine lv_goto (pc := 54) (tgt := 5) hx hb dX3_fulfil_54 (by decide) ?_
        exact ih5 (v_t_minutes x5_4.toNatClampNeg) (x5_4 + (1 : Int32)) u4.1 u4.2 u6 _ _ _ h (lv_sub hl [2, 3, 4, 1, 0] rfl) (hP.sub [4, 5, 6, 7, 0, 8, 1, 2, 3, 9] rfl) (hD.sub [4, 5, 6, 7, 0, 8, 1, 2, 3, 9] (by decide) rfl) hS
  exact J5 _ (0 : Int32) (0 : Int32) v_o1_depths v_o1_lives v_o1_stops _ _ _ h (lv_sub hl [2, 3, 4, 1, 0] rfl) hP hD hS
