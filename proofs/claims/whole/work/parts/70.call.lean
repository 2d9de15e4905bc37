/-! the law's calls: a method's cells among all others -/
theorem wp_pm {D : va_G} {cl : List vw_C} {ws ws' : va_W} {H : Heap} (h : ws.Perm ws') (hP : va_P D cl ws H) : va_P D cl ws' H := fun k q hk => by
  have hm : q ∈ ws := h.mem_iff.mpr (List.mem_of_getElem? hk)
  obtain ⟨j, hj⟩ := List.mem_iff_getElem?.mp hm
  exact hP j q hj
theorem wd_pw {A : Nat → Prop} {ws : va_W} (hD : va_D A ws) : ws.Pairwise (fun p q => p.1 ≠ q.1) := by
  rw [List.pairwise_iff_getElem]
  intro i j hi hj hij e
  have := hD.1 i j _ _ (List.getElem?_eq_getElem hi) (List.getElem?_eq_getElem hj) e
  omega
theorem wd_pm {A : Nat → Prop} {ws ws' : va_W} (h : ws.Perm ws') (hD : va_D A ws) : va_D A ws' := by
  have h1 : ws'.Pairwise (fun p q => p.1 ≠ q.1) := (h.pairwise_iff (fun {x y} e => Ne.symm e)).mp (wd_pw hD)
  rw [List.pairwise_iff_getElem] at h1
  refine ⟨fun i j p q hi hj e => ?_, fun k q hk => ?_⟩
  · obtain ⟨li, ei⟩ := List.getElem?_eq_some_iff.mp hi
    obtain ⟨lj, ej⟩ := List.getElem?_eq_some_iff.mp hj
    rcases Nat.lt_trichotomy i j with h2 | h2 | h2
    · exact absurd (by rw [ei, ej]; exact e) (h1 i j li lj h2)
    · exact h2
    · exact absurd (by rw [ei, ej]; exact e.symm) (h1 j i lj li h2)
  · have hm : q ∈ ws := h.mem_iff.mpr (List.mem_of_getElem? hk)
    obtain ⟨j, hj⟩ := List.mem_iff_getElem?.mp hm
    exact hD.2 j q hj
theorem rg_take (l : va_W) : ∀ n : Nat, (List.range n).filterMap (fun i => l[i]?) = l.take n
  | 0 => rfl
  | n + 1 => by
    rw [List.range_succ, List.filterMap_append, rg_take l n, List.take_succ]
    cases h : l[n]? with
    | none => simp [h]
    | some x => simp [h]
theorem pm {X ws : va_W} (n : Nat) (hn : X.length = n) (is : List Nat) (h : is.Perm (List.range n)) (hs : is.filterMap (fun i => X[i]?) = ws) : ws.Perm X := by
  have h1 := h.filterMap (fun i => X[i]?)
  rw [hs, rg_take, ← hn, List.take_length] at h1
  exact h1
theorem rgC (wc R : va_W) : (List.range wc.length).map (fun i => (wc ++ R)[i]?) = wc.map some := by
  apply List.ext_getElem?
  intro k
  rw [List.getElem?_map, List.getElem?_map]
  by_cases h : k < wc.length
  · rw [List.getElem?_range h, Option.map_some, List.getElem?_append_left h, List.getElem?_eq_getElem h]
    rfl
  · rw [List.getElem?_eq_none (by rw [List.length_range]; omega), List.getElem?_eq_none (by omega)]
    rfl
theorem rgC2 (wc R : va_W) : (List.range wc.length).filterMap (fun i => (wc ++ R)[i]?) = wc := by
  rw [rg_take, List.take_left']
  rfl
theorem rgR (wc R : va_W) : ((List.range R.length).map (fun j => wc.length + j)).map (fun i => (wc ++ R)[i]?) = R.map some := by
  apply List.ext_getElem?
  intro k
  rw [List.getElem?_map, List.getElem?_map, List.getElem?_map]
  by_cases h : k < R.length
  · rw [List.getElem?_range h, Option.map_some, Option.map_some, List.getElem?_append_right (by omega), Nat.add_sub_cancel_left, List.getElem?_eq_getElem h]
    rfl
  · rw [List.getElem?_eq_none (by rw [List.length_range]; omega), List.getElem?_eq_none (by omega)]
    rfl
theorem rgN (n k : Nat) : va_nd ((List.range k).map (fun j => n + j)) = true := z_nd _ (List.Pairwise.map (R := (· ≠ ·)) _ (fun a b h e => h (by omega)) List.nodup_range)
theorem rgD (n k : Nat) : ∀ i ∈ (List.range k).map (fun j => n + j), i ∉ List.range n := by
  intro i hi h
  obtain ⟨j, -, rfl⟩ := List.mem_map.mp hi
  have := List.mem_range.mp h
  omega
section ZF
variable {E : zE} {p : Program} {l : Launch} {e : Env} {R : Room} {s : State} {m : MethodId} {args : Array Value} {below : List Frame} {meth : Method} {c : Code} {H : Heap} {locs : List Loc} {cells slots mc ms : Nat} {Q : State → Prop}
variable {pc : Nat} {ls : Array Slot} {rest st0 As : List Value} {A : Nat → Prop} {o : Option Int32} {wc wc' wr X X' T : va_W}
variable {y : MethodName} {bytes cc : ByteArray} {maxL nL n index ci q0 b : Nat} {ret : Option FieldType} {rm : Room} {own C : String} {T0 : u_T} {N : Nat} {fs : List Value}
theorem z_callF (hx : p.tables.exec = Jvm.exec) (hb : c.code = cc) (hml : c.maxLocals = nL) (hown : s.vm.findClass own = some m.cls) (hK : zK E s) (hA : ∀ q, s.heap.size ≤ q → A q) (hP : va_P E.1 vwCl (X ++ T) H) (hD : va_D A (X ++ T)) (hS : va_S A s.heap H locs) (hl : ls.size = nL) (hcs : cells ≤ R.cells ∧ slots ≤ R.slots)
    (hM : zM E l y [.code y bytes maxL ret] rm (.ref b :: As) wc o wc') (h1 : zW (.methodLink own index y)) (h2 : zW (.instanceMethod y)) (h3 : zW (.selects C y y)) (h4 : zW (.initialized C)) (h5 : zW (.code y bytes maxL ret)) (hd : y.cls = C ∧ y.cls ≠ "java/lang/invoke/MethodHandle" ∧ y.cls ≠ "java/lang/invoke/VarHandle" ∧ (parseMethodDescriptor y.desc).map (fun d => d.parameters.length) = some n) (hn : As.length = n)
    (hRm : rm.cells = 0 ∧ rm.slots = 0 ∧ rm.frames + 1 ≤ R.frames ∧ 8 + (maxL + 11) + rm.locals ≤ R.locals)
    (hp : (wc ++ wr).Perm X) (hp' : (wc' ++ wr).Perm X')
    (hcl : vwCl[ci]? = some (C, T0, N)) (hq : wc[q0]? = some (b, .inr (ci, fs))) (hst : st0 = As.reverse ++ .ref b :: rest) (hW : (rest.map fun v => v.category).sum ≤ 8) (hdg : decode cc pc = .ok (.invokevirtual index, 3))
    (kk : ∀ (H1 : Heap) (locs1 : List Loc), va_P E.1 vwCl (X' ++ T) H1 → va_D A (X' ++ T) → va_S A s.heap H1 locs1 → W p l e R s m args below meth c H1 locs1 cells slots Q (F0 m (pc + 3) ls ((o.map Value.int).toList ++ rest))) : W p l e R s m args below meth c H locs cells slots Q (F0 m pc ls st0) := by
  have hw : (X ++ T).Perm (wc ++ (wr ++ T)) := by rw [← List.append_assoc]; exact hp.symm.append_right T
  have hw' : ((wr ++ T) ++ wc').Perm (X' ++ T) := List.perm_append_comm.trans (by rw [← List.append_assoc]; exact hp'.append_right T)
  refine z_callV (ws := wc ++ (wr ++ T)) (wr := wr ++ T) hx hb hml hown hK hA (wp_pm hw hP) (wd_pm hw hD) hS hl hcs hM h1 h2 h3 h4 h5 hd hn hRm (List.range wc.length) ((List.range (wr ++ T).length).map (fun j => wc.length + j)) (z_nd _ List.nodup_range) (rgC _ _) (rgR _ _) (rgN _ _) (rgD _ _) hcl hq hst hW hdg (fun H1 locs1 hP hD hS => kk H1 locs1 (wp_pm hw' hP) (wd_pm hw' hD) hS)
theorem z_callFx {wc' : (Nat → Nat) → va_W} {X' : (Nat → Nat) → va_W} (hx : p.tables.exec = Jvm.exec) (hb : c.code = cc) (hml : c.maxLocals = nL) (hown : s.vm.findClass own = some m.cls) (hK : zK E s) (hA : ∀ q, s.heap.size ≤ q → A q) (hP : va_P E.1 vwCl (X ++ T) H) (hD : va_D A (X ++ T)) (hS : va_S A s.heap H locs) (hl : ls.size = nL) (hcs : cells + mc ≤ R.cells ∧ slots + ms ≤ R.slots)
    (hM : zMx E l y [.code y bytes maxL ret] rm (.ref b :: As) wc o wc' mc ms) (h1 : zW (.methodLink own index y)) (h2 : zW (.instanceMethod y)) (h3 : zW (.selects C y y)) (h4 : zW (.initialized C)) (h5 : zW (.code y bytes maxL ret)) (hd : y.cls = C ∧ y.cls ≠ "java/lang/invoke/MethodHandle" ∧ y.cls ≠ "java/lang/invoke/VarHandle" ∧ (parseMethodDescriptor y.desc).map (fun d => d.parameters.length) = some n) (hn : As.length = n)
    (hRm : rm.cells = mc ∧ rm.slots = ms ∧ rm.frames + 1 ≤ R.frames ∧ 8 + (maxL + 11) + rm.locals ≤ R.locals)
    (hp : (wc ++ wr).Perm X) (hp' : ∀ q, (wc' q ++ wr).Perm (X' q))
    (hcl : vwCl[ci]? = some (C, T0, N)) (hq : wc[q0]? = some (b, .inr (ci, fs))) (hst : st0 = As.reverse ++ .ref b :: rest) (hW : (rest.map fun v => v.category).sum ≤ 8) (hdg : decode cc pc = .ok (.invokevirtual index, 3))
    (kk : ∀ (q : Nat → Nat) (H1 : Heap) (locs1 : List Loc), va_P E.1 vwCl (X' q ++ T) H1 → va_D A (X' q ++ T) → va_S A s.heap H1 locs1 → W p l e R s m args below meth c H1 locs1 (cells + mc) (slots + ms) Q (F0 m (pc + 3) ls ((o.map Value.int).toList ++ rest))) : W p l e R s m args below meth c H locs cells slots Q (F0 m pc ls st0) := by
  have hw : (X ++ T).Perm (wc ++ (wr ++ T)) := by rw [← List.append_assoc]; exact hp.symm.append_right T
  have hw' : ∀ q, ((wr ++ T) ++ wc' q).Perm (X' q ++ T) := fun q => List.perm_append_comm.trans (by rw [← List.append_assoc]; exact (hp' q).append_right T)
  refine z_callVx (ws := wc ++ (wr ++ T)) (wr := wr ++ T) hx hb hml hown hK hA (wp_pm hw hP) (wd_pm hw hD) hS hl hcs hM h1 h2 h3 h4 h5 hd hn hRm (List.range wc.length) ((List.range (wr ++ T).length).map (fun j => wc.length + j)) (z_nd _ List.nodup_range) (rgC _ _) (rgC2 _ _) (rgR _ _) (rgN _ _) (rgD _ _) hcl hq hst hW hdg (fun q H1 locs1 hP hD hS => kk q H1 locs1 (wp_pm (hw' q) hP) (wd_pm (hw' q) hD) hS)
/-- the script's number, by a name -/
theorem z_sld {H0 : Heap} (hexec : p.tables.exec = Jvm.exec) (hb : c.code = cc) {b L : Nat} {xs : Nat → Int32} (hX : va_X b L xs s H0) (hbl : b < H0.size) (hbA : ¬ A b) (hS : va_S A H0 H locs) {i v : Int32} (hin : vp_in i L) (hv : xs i.toNatClampNeg = v) (hdg : decode cc pc = .ok (.iaload, 1))
    (kk : W p l e R s m args below meth c H locs cells slots Q (F0 m (pc + 1) ls (.int v :: rest))) : W p l e R s m args below meth c H locs cells slots Q (F0 m pc ls (.int i :: .ref b :: rest)) := by
  refine va_sld hexec hb hX hbl hbA hS hin hdg ?_
  rw [hv]
  exact kk
end ZF
theorem sw_P {D : va_G} {cl : List vw_C} {a b t : va_W} {H : Heap} (h : va_P D cl (a ++ (b ++ t)) H) : va_P D cl (b ++ (a ++ t)) H := wp_pm (by rw [← List.append_assoc, ← List.append_assoc]; exact List.perm_append_comm.append_right t) h
theorem sw_D {A : Nat → Prop} {a b t : va_W} (h : va_D A (a ++ (b ++ t))) : va_D A (b ++ (a ++ t)) := wd_pm (by rw [← List.append_assoc, ← List.append_assoc]; exact List.perm_append_comm.append_right t) h
