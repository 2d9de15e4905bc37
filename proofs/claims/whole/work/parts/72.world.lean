-- ===== end of PART A; then your names; then what follows =====
/-! THE CLAIM OUT OF ONE WALK OF THE LAW'S BODY. Your part is whole_start (and what it stands on); all else here is the same for every law, but numbers. -/
def R_law : String := "EtchBathLaw"
def lw_P (b : Addr) (xs : List Int32) (args : Array Value) (s : State) : Prop := args = #[.ref b] ∧ s.IntsAt b xs ∧ xs.length ≤ 2048 ∧ (Jvm.Cond.and given_1 narrow_1).before args s = true
def lw_Q (_ : Array Value) (s : State) (o : Outcome) (t : State) : Prop := o = .returned (some (.int 1)) ∧ Framed s o t [] 600000 7302250
def lw_Z (below : List Frame) (a : Array Value) (s : State) : State → Prop := fun t => ∃ o, t.status = .running ∧ Ended t below o ∧ lw_Q a s o t
/-- the law's own end, with 1 on the stack, nothing written that was there before, its room as the claim has it -/
theorem lw_ret {p : Program} {l : Launch} {e : Env} {s : State} {m : MethodId} {below : List Frame} {meth : Method} {c : Code} {b : Nat} (hx : p.tables.exec = Jvm.exec) (hb : c.code = code) (hr : meth.sig.returnType = ret) (hlocks : meth.locks = false) {pc : Nat} {H : Heap} {ls : Array Slot} (hdg : decode code pc = .ok (.ireturn, 1)) : W p l e room_1 s m #[Value.ref b] below meth c H [] 600000 7302250 (lw_Z below #[Value.ref b] s) (F0 m pc ls [.int 1]) := by
  intro T hT X
  obtain ⟨fs, hret, hrun, hended, hW, hframe⟩ := X.leave (v := some (.int 1)) (hlocks := hlocks) (fun h => by rw [hr] at h; cases h)
  have hmeth' : T.vm.method? m = some meth := X.method'
  refine ⟨T.setFrames fs, ?_, .returned (some (.int 1)), hrun, hended, rfl, ⟨_, rfl⟩, hW, hframe⟩
  jvm_step X.here [X.here.top, hx, hb, hdg, hmeth', hr, ret, narrow_b1]
  (try refine ⟨rfl, ?_⟩); (try refine ⟨rfl, ?_⟩)
  first | (intro acts; rw [hret _ acts rfl rfl rfl]) | rw [hret _ _ rfl rfl rfl]
  exact Steps.refl _
/-- what holds at the law's entry: the machine, the code, the tables' words (any of lw_tbl by 'hts w (by decide +kernel)'), the script of L ints xs at the cell b, what the Statement gives of the start (any of its parts by flat_of_before) -/
def lw_At (p : Program) (s : State) (m : MethodId) (meth : Method) (c : Code) (b L : Nat) (xs : Nat → Int32) : Prop :=
  p.tables.exec = Jvm.exec ∧ c.code = code ∧ meth.sig.returnType = ret ∧ c.maxLocals = 4 ∧ s.vm.findClass R_law = some m.cls ∧ (∀ w ∈ lw_tbl, w.before #[Value.ref b] s = true) ∧ va_X b L xs s s.heap ∧ b < s.heap.size ∧ meth.locks = false ∧ (Jvm.Cond.and given_1 narrow_1).before #[Value.ref b] s = true
def WX (E : zE) (ac : Nat → Nat) (x_waiting : Int32) (x_strength : Int32) (x_heat : Int32) (x_plates_kinds : Nat → Int32) (x_plates_depths : Nat → Int32) (x_plates_lives : Nat → Int32) (x_plates_stops : Nat → Int32) (sf : Nat → Option Nat) (x_wishes_size : Int32) (x_wishes_planned : Int32) (x_wishes_spots : Nat → Int32) (x_wishes_tones : Nat → Int32) (x_wishes_firsts : Nat → Int32) (x_wishes_lasts : Nat → Int32) (x_wishes_minutes : Nat → Int32) (x_press_pulls : Int32) (x_press_downs : Nat → Int32) (x_press_rights : Nat → Int32) (x_press_steels : Nat → Int32) (x_guards_size : Int32) (x_guards_spots : Nat → Int32) (x_guards_lows : Nat → Int32) (x_guards_highs : Nat → Int32) (x_numbers : Nat → Int32) (x_findings : Nat → Int32) : va_W := [((ac 0), .inr (4, [.ref (ac 1), .ref (ac 6), .ref (ac 7), .ref (ac 13), .ref (ac 17), .ref (ac 21), .ref (ac 22), .int x_waiting, .int x_strength, .int x_heat])), ((ac 1), .inr (1, [.ref (ac 2), .ref (ac 3), .ref (ac 4), .ref (ac 5)])), ((ac 2), .inl (E.2.1, 108, .inl x_plates_kinds)), ((ac 3), .inl (E.2.1, 108, .inl x_plates_depths)), ((ac 4), .inl (E.2.1, 108, .inl x_plates_lives)), ((ac 5), .inl (E.2.2.1, 108, .inl x_plates_stops)), ((ac 6), .inl (E.2.2.2, 4, .inr (.inr (.inr (.inr sf))))), ((ac 7), .inr (3, [.ref (ac 8), .ref (ac 9), .ref (ac 10), .ref (ac 11), .ref (ac 12), .int x_wishes_size, .int x_wishes_planned])), ((ac 8), .inl (E.2.1, 8, .inl x_wishes_spots)), ((ac 9), .inl (E.2.1, 8, .inl x_wishes_tones)), ((ac 10), .inl (E.2.1, 8, .inl x_wishes_firsts)), ((ac 11), .inl (E.2.1, 8, .inl x_wishes_lasts)), ((ac 12), .inl (E.2.1, 8, .inl x_wishes_minutes)), ((ac 13), .inr (2, [.ref (ac 14), .ref (ac 15), .ref (ac 16), .int x_press_pulls])), ((ac 14), .inl (E.2.1, 3, .inl x_press_downs)), ((ac 15), .inl (E.2.1, 3, .inl x_press_rights)), ((ac 16), .inl (E.2.1, 3, .inl x_press_steels)), ((ac 17), .inr (0, [.ref (ac 18), .ref (ac 19), .ref (ac 20), .int x_guards_size])), ((ac 18), .inl (E.2.1, 8, .inl x_guards_spots)), ((ac 19), .inl (E.2.1, 8, .inl x_guards_lows)), ((ac 20), .inl (E.2.1, 8, .inl x_guards_highs)), ((ac 21), .inl (E.2.1, 36, .inl x_numbers)), ((ac 22), .inl (E.2.1, 6, .inl x_findings))]
def WM (E : zE) (am : Nat → Nat) (m_strength : Int32) (m_heat : Int32) (m_wishes : Int32) (m_baths : Int32) (m_pulls : Int32) (m_guards : Int32) (m_waiting : Int32) (m_begin : Int32) (m_end : Int32) (m_ground : Nat → Int32) (m_depth : Nat → Int32) (m_life : Nat → Int32) (m_isStopped : Nat → Int32) (m_isKept : Nat → Int32) (m_wishCell : Nat → Int32) (m_wishTone : Nat → Int32) (m_first : Nat → Int32) (m_last : Nat → Int32) (m_minute : Nat → Int32) (m_down : Nat → Int32) (m_right : Nat → Int32) (m_steel : Nat → Int32) (m_guardCell : Nat → Int32) (m_guardLow : Nat → Int32) (m_guardHigh : Nat → Int32) (m_told : Nat → Int32) (m_found : Nat → Int32) (m_isMet : Nat → Int32) (m_isTried : Nat → Int32) : va_W := [((am 0), .inr (5, [.ref (am 1), .ref (am 2), .ref (am 3), .ref (am 4), .ref (am 5), .int m_strength, .int m_heat, .int m_wishes, .ref (am 6), .ref (am 7), .ref (am 8), .ref (am 9), .int m_baths, .ref (am 10), .ref (am 11), .ref (am 12), .ref (am 13), .int m_pulls, .int m_guards, .ref (am 14), .ref (am 15), .ref (am 16), .int m_waiting, .ref (am 17), .ref (am 18), .int m_begin, .int m_end, .ref (am 19), .ref (am 20)])), ((am 1), .inl (E.2.1, 648, .inl m_ground)), ((am 2), .inl (E.2.1, 648, .inl m_depth)), ((am 3), .inl (E.2.1, 648, .inl m_life)), ((am 4), .inl (E.2.2.1, 648, .inl m_isStopped)), ((am 5), .inl (E.2.2.1, 4, .inl m_isKept)), ((am 6), .inl (E.2.1, 8, .inl m_wishCell)), ((am 7), .inl (E.2.1, 8, .inl m_wishTone)), ((am 8), .inl (E.2.1, 8, .inl m_first)), ((am 9), .inl (E.2.1, 8, .inl m_last)), ((am 10), .inl (E.2.1, 8, .inl m_minute)), ((am 11), .inl (E.2.1, 3, .inl m_down)), ((am 12), .inl (E.2.1, 3, .inl m_right)), ((am 13), .inl (E.2.1, 3, .inl m_steel)), ((am 14), .inl (E.2.1, 8, .inl m_guardCell)), ((am 15), .inl (E.2.1, 8, .inl m_guardLow)), ((am 16), .inl (E.2.1, 8, .inl m_guardHigh)), ((am 17), .inl (E.2.1, 36, .inl m_told)), ((am 18), .inl (E.2.1, 6, .inl m_found)), ((am 19), .inl (E.2.2.1, 8, .inl m_isMet)), ((am 20), .inl (E.2.2.1, 8, .inl m_isTried))]
def WP (E : zE) (a : Nat) (ad : Nat → Nat) (f0 f1 f2 f3 : Nat → Int32) : va_W := [(a, .inr (1, [.ref (ad 0), .ref (ad 1), .ref (ad 2), .ref (ad 3)])), (ad 0, .inl (E.2.1, 108, .inl f0)), (ad 1, .inl (E.2.1, 108, .inl f1)), (ad 2, .inl (E.2.1, 108, .inl f2)), (ad 3, .inl (E.2.2.1, 108, .inl f3))]
/-- the cells of a kept state -/
def wS (E : zE) (sf : Nat → Option Nat) (T : Nat → Nat → Nat → Int32) (aa : Nat → Nat → Nat) (k : Nat) : va_W := match sf k with
  | none => []
  | some a => WP E a (aa k) (T k 0) (T k 1) (T k 2) (T k 3)
def Sl (E : zE) (sf : Nat → Option Nat) (T : Nat → Nat → Nat → Int32) (aa : Nat → Nat → Nat) : va_W := wS E sf T aa 0 ++ (wS E sf T aa 1 ++ (wS E sf T aa 2 ++ wS E sf T aa 3))
def Sr (E : zE) (sf : Nat → Option Nat) (T : Nat → Nat → Nat → Int32) (aa : Nat → Nat → Nat) (k : Nat) : va_W := (if k = 0 then [] else wS E sf T aa 0) ++ ((if k = 1 then [] else wS E sf T aa 1) ++ ((if k = 2 then [] else wS E sf T aa 2) ++ (if k = 3 then [] else wS E sf T aa 3)))
theorem sw3 (a b t : va_W) : (a ++ (b ++ t)).Perm (b ++ (a ++ t)) := by rw [← List.append_assoc, ← List.append_assoc]; exact List.perm_append_comm.append_right t
theorem Sl_pm (E : zE) (sf : Nat → Option Nat) (T : Nat → Nat → Nat → Int32) (aa : Nat → Nat → Nat) {k : Nat} (hk : k < 4) : (wS E sf T aa k ++ Sr E sf T aa k).Perm (Sl E sf T aa) := by
  rcases (show k = 0 ∨ k = 1 ∨ k = 2 ∨ k = 3 by omega) with rfl | rfl | rfl | rfl
  · exact List.Perm.refl _
  · exact sw3 (wS E sf T aa 1) (wS E sf T aa 0) _
  · exact (sw3 (wS E sf T aa 2) (wS E sf T aa 0) _).trans ((sw3 (wS E sf T aa 2) (wS E sf T aa 1) _).append_left _)
  · refine (sw3 (wS E sf T aa 3) (wS E sf T aa 0) _).trans (((sw3 (wS E sf T aa 3) (wS E sf T aa 1) _).trans (List.Perm.append_left _ ?_)).append_left _)
    show (wS E sf T aa 3 ++ (wS E sf T aa 2 ++ [])).Perm (wS E sf T aa 2 ++ wS E sf T aa 3)
    rw [List.append_nil]
    exact List.perm_append_comm
theorem wS_c {E : zE} {sf sf' : Nat → Option Nat} {T T' : Nat → Nat → Nat → Int32} {aa aa' : Nat → Nat → Nat} {j : Nat} (h : sf' j = sf j ∧ T' j = T j ∧ aa' j = aa j) : wS E sf' T' aa' j = wS E sf T aa j := by
  unfold wS
  rw [h.1, h.2.1, h.2.2]
theorem Sr_c {E : zE} {sf sf' : Nat → Option Nat} {T T' : Nat → Nat → Nat → Int32} {aa aa' : Nat → Nat → Nat} {k : Nat} (h : ∀ j, j ≠ k → sf' j = sf j ∧ T' j = T j ∧ aa' j = aa j) : Sr E sf' T' aa' k = Sr E sf T aa k := by
  have h1 : ∀ j, (if k = j then [] else wS E sf' T' aa' j) = (if k = j then [] else wS E sf T aa j) := fun j => by
    by_cases e : k = j
    · rw [if_pos e, if_pos e]
    · rw [if_neg e, if_neg e, wS_c (h j (Ne.symm e))]
  unfold Sr
  rw [h1, h1, h1, h1]
theorem wS_s {E : zE} {sf : Nat → Option Nat} {T : Nat → Nat → Nat → Int32} {aa : Nat → Nat → Nat} {k a : Nat} (h : sf k = some a) : wS E sf T aa k = WP E a (aa k) (T k 0) (T k 1) (T k 2) (T k 3) := by
  unfold wS
  rw [h]
theorem wS_n {E : zE} {sf : Nat → Option Nat} {T : Nat → Nat → Nat → Int32} {aa : Nat → Nat → Nat} {k : Nat} (h : sf k = none) : wS E sf T aa k = [] := by
  unfold wS
  rw [h]
theorem mv {a b w s s' : va_W} (h : (w ++ s).Perm s') : ((a ++ w) ++ (b ++ s)).Perm (a ++ (b ++ s')) := by
  rw [List.append_assoc]
  exact List.Perm.append_left a ((sw3 w b s).trans (h.append_left b))
def aaU (aa : Nat → Nat → Nat) (k : Nat) (q : Nat → Nat) : Nat → Nat → Nat := fun j => if j = k then (fun i => q (i + 1)) else aa j
theorem tset_ne (T : Nat → Nat → Nat → Int32) {k j : Nat} (a b c d : Nat → Int32) (h : j ≠ k) : tset T k a b c d j = T j := funext fun c' => if_neg h
theorem tset_at (T : Nat → Nat → Nat → Int32) (k : Nat) (a b c d : Nat → Int32) : tset T k a b c d k 0 = a ∧ tset T k a b c d k 1 = b ∧ tset T k a b c d k 2 = c ∧ tset T k a b c d k 3 = d := by
  refine ⟨?_, ?_, ?_, ?_⟩ <;> (unfold tset; rw [if_pos rfl]; rfl)
/-- a state as it is, and as it is after -/
theorem Sl_s {E : zE} {sf : Nat → Option Nat} {T : Nat → Nat → Nat → Int32} {aa : Nat → Nat → Nat} {k a : Nat} (hk : k < 4) (h : sf k = some a) : (WP E a (aa k) (T k 0) (T k 1) (T k 2) (T k 3) ++ Sr E sf T aa k).Perm (Sl E sf T aa) := by
  rw [← wS_s h]
  exact Sl_pm E sf T aa hk
theorem Sl_t {E : zE} {sf : Nat → Option Nat} {T : Nat → Nat → Nat → Int32} {aa : Nat → Nat → Nat} {k a : Nat} (hk : k < 4) (h : sf k = some a) (f0 f1 f2 f3 : Nat → Int32) : (WP E a (aa k) f0 f1 f2 f3 ++ Sr E sf T aa k).Perm (Sl E sf (tset T k f0 f1 f2 f3) aa) := by
  obtain ⟨e0, e1, e2, e3⟩ := tset_at T k f0 f1 f2 f3
  have h1 := Sl_s (E := E) (T := tset T k f0 f1 f2 f3) (aa := aa) hk h
  rw [e0, e1, e2, e3, Sr_c (sf := sf) (T := T) (aa := aa) (sf' := sf) (T' := tset T k f0 f1 f2 f3) (aa' := aa) (fun j hj => ⟨rfl, tset_ne T _ _ _ _ hj, rfl⟩)] at h1
  exact h1
theorem Sl_u {E : zE} {sf : Nat → Option Nat} {T : Nat → Nat → Nat → Int32} {aa : Nat → Nat → Nat} {k : Nat} (hk : k < 4) (h : sf k = none) (q : Nat → Nat) (f0 f1 f2 f3 : Nat → Int32) : (WP E (q 0) (fun j => q (j + 1)) f0 f1 f2 f3 ++ Sl E sf T aa).Perm (Sl E (va_up sf k (some (q 0))) (tset T k f0 f1 f2 f3) (aaU aa k q)) := by
  have hu : va_up sf k (some (q 0)) k = some (q 0) := by unfold va_up; exact if_pos rfl
  have ha : aaU aa k q k = fun j => q (j + 1) := if_pos rfl
  obtain ⟨e0, e1, e2, e3⟩ := tset_at T k f0 f1 f2 f3
  have h1 := Sl_s (E := E) (T := tset T k f0 f1 f2 f3) (aa := aaU aa k q) hk hu
  rw [e0, e1, e2, e3, ha, Sr_c (sf := sf) (T := T) (aa := aa) (sf' := va_up sf k (some (q 0))) (T' := tset T k f0 f1 f2 f3) (aa' := aaU aa k q) (fun j hj => ⟨(by unfold va_up; exact if_neg hj), tset_ne T _ _ _ _ hj, if_neg hj⟩)] at h1
  refine List.Perm.trans (List.Perm.append_left _ ?_) h1
  have h2 := Sl_pm E sf T aa hk
  rw [wS_n h, List.nil_append] at h2
  exact h2.symm
/-- what holds at the law's head -/
def LI (E : zE) (s : State) (b i : Nat) (H : Heap) (locs : List Loc) (ls : Array Slot) : Prop := ∃ (ac am : Nat → Nat) (aa : Nat → Nat → Nat) (sf : Nat → Option Nat) (T : Nat → Nat → Nat → Int32) (x_waiting : Int32) (x_strength : Int32) (x_heat : Int32) (x_plates_kinds : Nat → Int32) (x_plates_depths : Nat → Int32) (x_plates_lives : Nat → Int32) (x_plates_stops : Nat → Int32) (x_wishes_size : Int32) (x_wishes_planned : Int32) (x_wishes_spots : Nat → Int32) (x_wishes_tones : Nat → Int32) (x_wishes_firsts : Nat → Int32) (x_wishes_lasts : Nat → Int32) (x_wishes_minutes : Nat → Int32) (x_press_pulls : Int32) (x_press_downs : Nat → Int32) (x_press_rights : Nat → Int32) (x_press_steels : Nat → Int32) (x_guards_size : Int32) (x_guards_spots : Nat → Int32) (x_guards_lows : Nat → Int32) (x_guards_highs : Nat → Int32) (x_numbers : Nat → Int32) (x_findings : Nat → Int32) (m_strength : Int32) (m_heat : Int32) (m_wishes : Int32) (m_baths : Int32) (m_pulls : Int32) (m_guards : Int32) (m_waiting : Int32) (m_begin : Int32) (m_end : Int32) (m_ground : Nat → Int32) (m_depth : Nat → Int32) (m_life : Nat → Int32) (m_isStopped : Nat → Int32) (m_isKept : Nat → Int32) (m_wishCell : Nat → Int32) (m_wishTone : Nat → Int32) (m_first : Nat → Int32) (m_last : Nat → Int32) (m_minute : Nat → Int32) (m_down : Nat → Int32) (m_right : Nat → Int32) (m_steel : Nat → Int32) (m_guardCell : Nat → Int32) (m_guardLow : Nat → Int32) (m_guardHigh : Nat → Int32) (m_told : Nat → Int32) (m_found : Nat → Int32) (m_isMet : Nat → Int32) (m_isTried : Nat → Int32), (InvP x_plates_kinds x_plates_depths x_plates_lives x_plates_stops sf T m_ground m_depth m_life m_isStopped m_isKept ∧ InvB x_strength x_heat m_strength m_heat ∧ InvW x_wishes_spots x_wishes_tones x_wishes_size m_wishCell m_wishTone m_wishes ∧ InvR x_press_downs x_press_rights x_press_steels x_press_pulls m_down m_right m_steel m_pulls ∧ InvG x_guards_spots x_guards_lows x_guards_highs x_guards_size m_guardCell m_guardLow m_guardHigh m_guards ∧ InvN x_numbers x_waiting m_told m_waiting ∧ InvF x_findings m_found) ∧ va_P E.1 vwCl (WX E ac x_waiting x_strength x_heat x_plates_kinds x_plates_depths x_plates_lives x_plates_stops sf x_wishes_size x_wishes_planned x_wishes_spots x_wishes_tones x_wishes_firsts x_wishes_lasts x_wishes_minutes x_press_pulls x_press_downs x_press_rights x_press_steels x_guards_size x_guards_spots x_guards_lows x_guards_highs x_numbers x_findings ++ (WM E am m_strength m_heat m_wishes m_baths m_pulls m_guards m_waiting m_begin m_end m_ground m_depth m_life m_isStopped m_isKept m_wishCell m_wishTone m_first m_last m_minute m_down m_right m_steel m_guardCell m_guardLow m_guardHigh m_told m_found m_isMet m_isTried ++ Sl E sf T aa)) H ∧ va_D (fun q : Nat => s.heap.size ≤ q) (WX E ac x_waiting x_strength x_heat x_plates_kinds x_plates_depths x_plates_lives x_plates_stops sf x_wishes_size x_wishes_planned x_wishes_spots x_wishes_tones x_wishes_firsts x_wishes_lasts x_wishes_minutes x_press_pulls x_press_downs x_press_rights x_press_steels x_guards_size x_guards_spots x_guards_lows x_guards_highs x_numbers x_findings ++ (WM E am m_strength m_heat m_wishes m_baths m_pulls m_guards m_waiting m_begin m_end m_ground m_depth m_life m_isStopped m_isKept m_wishCell m_wishTone m_first m_last m_minute m_down m_right m_steel m_guardCell m_guardLow m_guardHigh m_told m_found m_isMet m_isTried ++ Sl E sf T aa)) ∧ va_S (fun q : Nat => s.heap.size ≤ q) s.heap H locs ∧ lv_has ls 4 [(0, .ref b), (1, .ref (ac 0)), (2, .ref (am 0)), (3, .int (nI i))]
theorem zK_ex {s : State} (hT : zT s) : ∃ E : zE, zK E s := by
  obtain ⟨c0, i0, k0⟩ := u_known (C := RX0) (T := TX0) (N := 4) (n := 4) (args := #[]) (fun w h => hT w (zl_X0 w h) #[]) (fun _ h => h) (hT _ zw372 #[])
  obtain ⟨c1, i1, k1⟩ := u_known (C := RX1) (T := TX1) (N := 4) (n := 4) (args := #[]) (fun w h => hT w (zl_X1 w h) #[]) (fun _ h => h) (hT _ zw356 #[])
  obtain ⟨c2, i2, k2⟩ := u_known (C := RX2) (T := TX2) (N := 4) (n := 4) (args := #[]) (fun w h => hT w (zl_X2 w h) #[]) (fun _ h => h) (hT _ zw367 #[])
  obtain ⟨c3, i3, k3⟩ := u_known (C := RX3) (T := TX3) (N := 7) (n := 7) (args := #[]) (fun w h => hT w (zl_X3 w h) #[]) (fun _ h => h) (hT _ zw362 #[])
  obtain ⟨c4, i4, k4⟩ := u_known (C := RX4) (T := TX4) (N := 10) (n := 10) (args := #[]) (fun w h => hT w (zl_X4 w h) #[]) (fun _ h => h) (hT _ zw604 #[])
  obtain ⟨c5, i5, k5⟩ := u_known (C := RX5) (T := TX5) (N := 29) (n := 29) (args := #[]) (fun w h => hT w (zl_X5 w h) #[]) (fun _ h => h) (hT _ zw605 #[])
  obtain ⟨cI, kI, pI, a1, a2, a3⟩ := Cond.arrayClass_spec (hT _ zw349 #[])
  obtain ⟨cZ, kZ, pZ, b1, b2, b3⟩ := Cond.arrayClass_spec (hT _ zw351 #[])
  obtain ⟨pP, cP, kP, d1, d2, d3, d4, d5⟩ := Cond.arrayOver_spec (hT _ zw360 #[])
  refine ⟨((fun k => match k with | 0 => c0 | 1 => c1 | 2 => c2 | 3 => c3 | 4 => c4 | _ => c5, fun k => match k with | 0 => i0 | 1 => i1 | 2 => i2 | 3 => i3 | 4 => i4 | _ => i5), cI, cZ, cP), ⟨fun k q hq => ?_, fun k q hq => ?_⟩, hT⟩
  · match k, hq with
    | 0, hq => cases hq; exact k0
    | 1, hq => cases hq; exact k1
    | 2, hq => cases hq; exact k2
    | 3, hq => cases hq; exact k3
    | 4, hq => cases hq; exact k4
    | 5, hq => cases hq; exact k5
    | k + 6, hq => exact absurd (List.getElem?_eq_some_iff.mp hq).1 (by show ¬ (k + 6 < 6); omega)
  · match k, hq with
    | 0, hq => cases hq; exact ⟨fun n z => ⟨fun k h => (by cases h), kI, a2, pI, a3⟩, a1⟩
    | 1, hq => cases hq; exact ⟨fun n z => ⟨fun k h => (by cases h), kZ, b2, pZ, b3⟩, b1⟩
    | 2, hq => cases hq; exact ⟨fun n z => ⟨fun k h => (by cases h), kP, d3, pP, d4⟩, ⟨kP, pP, d3, d4, d1, d5⟩⟩
    | k + 3, hq => exact absurd (List.getElem?_eq_some_iff.mp hq).1 (by show ¬ (k + 3 < 3); omega)
