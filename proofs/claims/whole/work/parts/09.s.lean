def fX4_toneOf (p0 : Int32) : Option (Int32) := some (if (p0 / (40 : Int32)) < (15 : Int32) then (p0 / (40 : Int32)) else (15 : Int32))
set_option maxHeartbeats 4000000 in
set_option maxRecDepth 100000 in
theorem mt_X4_toneOf (E : zE) (l : Launch) (p0 : Int32) (u : Int32) (hf : fX4_toneOf p0 = some u)   : zM E l yX4_toneOf [.code yX4_toneOf cX4_toneOf 1 (some .int)] { frames := 1, cells := 0, slots := 0, locals := 13 } [.int p0] [] (some u) [] := by
  refine zM_int (ty := .int) (cc := cX4_toneOf) (nL := 1) (by decide) (Nat.le_of_ble_eq_true rfl) ?_
  intro p e R s m args below meth c A Q ls hRf hRl hx hb hml hown hK hA hP hD hS hl ret
  have hT := hK.2
  have hown : s.vm.findClass RX4 = some m.cls := hown
  have hl : lv_has ls 1 [(0, .int p0)] := hl
  have h := hf
  unfold fX4_toneOf at h
  refine lv_bipush (pc := 0) (v := (15 : Int32)) hx hb dX4_toneOf_0 (by decide) ?_
  refine lv_iload_n (pc := 2) hx hb dX4_toneOf_2 rfl (lv_at hl 0 rfl) ?_
  refine lv_bipush (pc := 3) (v := (40 : Int32)) hx hb dX4_toneOf_3 (by decide) ?_
  refine lv_idiv (pc := 5) hx hb dX4_toneOf_5 (by decide) ?_
  refine va_mmin (pc := 6) hx hb (by rw [hml]; exact hl.1.symm) hown (hT _ zw4 _) (hT _ zw5 _) (hT _ zw6 _) (hT _ zw7 _) (Nat.le_trans (Nat.le_of_ble_eq_true rfl) hRf) (Nat.le_trans (Nat.le_of_ble_eq_true rfl) hRl) (Nat.zero_le _) (Nat.zero_le _) dX4_toneOf_6 ?_
  obtain rfl := Option.some.inj h
  exact ret _ _ 9 _ rfl dX4_toneOf_9 hP hD hS
def fX4_worn (p0 : Int32) : Option (Int32) := some (p0 - (p0 / (50 : Int32)))
set_option maxHeartbeats 4000000 in
set_option maxRecDepth 100000 in
theorem mt_X4_worn (E : zE) (l : Launch) (p0 : Int32) (u : Int32) (hf : fX4_worn p0 = some u)   : zM E l yX4_worn [.code yX4_worn cX4_worn 1 (some .int)] { frames := 0, cells := 0, slots := 0, locals := 0 } [.int p0] [] (some u) [] := by
  refine zM_int (ty := .int) (cc := cX4_worn) (nL := 1) (by decide) (Nat.le_of_ble_eq_true rfl) ?_
  intro p e R s m args below meth c A Q ls hRf hRl hx hb hml hown hK hA hP hD hS hl ret
  have hT := hK.2
  have hown : s.vm.findClass RX4 = some m.cls := hown
  have hl : lv_has ls 1 [(0, .int p0)] := hl
  have h := hf
  unfold fX4_worn at h
  refine lv_iload_n (pc := 0) hx hb dX4_worn_0 rfl (lv_at hl 0 rfl) ?_
  refine lv_iload_n (pc := 1) hx hb dX4_worn_1 rfl (lv_at hl 0 rfl) ?_
  refine lv_bipush (pc := 2) (v := (50 : Int32)) hx hb dX4_worn_2 (by decide) ?_
  refine lv_idiv (pc := 4) hx hb dX4_worn_4 (by decide) ?_
  refine lv_isub (pc := 5) hx hb dX4_worn_5 ?_
  obtain rfl := Option.some.inj h
  exact ret _ _ 6 _ rfl dX4_worn_6 hP hD hS
