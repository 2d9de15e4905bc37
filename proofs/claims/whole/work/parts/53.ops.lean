theorem q_rng {x : Int32} (h : ¬ (x < 0 ∨ 5 < x)) : ∃ a : Nat, a ≤ 5 ∧ x = nI a := rg_of (m := 5) (by omega) rfl h
theorem in08 : inb (0 : Int32) 8 = true := rfl
theorem six_le {x : Int32} (h0 : ¬ x < 0) : ((6 : Int32) ≤ x) = (5 < x) := by
  obtain ⟨n, hn, rfl⟩ := q_of h0
  rw [l6, l5, q_le (by omega) hn, q_lt (by omega) hn]
  exact propext ⟨fun h => by omega, fun h => by omega⟩
section OPS3
variable {K D L S : Nat → Int32} {sf : Nat → Option Nat} {T : Nat → Nat → Nat → Int32} {G De Li St Ke F Fo : Nat → Int32}
variable {dn ri st : Nat → Int32} {pu : Int32} {mdn mri mst : Nat → Int32} {mpu : Int32}
/-- rows of depths that agree, within their range -/
def DOk (D De : Nat → Int32) : Prop := ∀ i, i < 108 → De i = D i ∧ ∃ d : Nat, D i = nI d ∧ d ≤ 9999
theorem InvP.dok (hP : InvP K D L S sf T G De Li St Ke) : DOk D De := fun i hi => by
  obtain ⟨⟨kn, dn, ln, sn, hk, hd, hl, hs, b1, b2, b3, b4, b5⟩, e1, e2, e3, e4⟩ := hP.at hi
  exact ⟨e2, dn, hd, b2⟩
theorem ink (hP : DOk D De) (hR : InvR dn ri st pu mdn mri mst mpu) {p : Nat} (hp : p < 3) (x : Int32) : ∃ t, fX2_ink dn ri D (nI p) x = some t ∧ fX5_ink De mdn mri (nI p) x = some t := by
  unfold fX2_ink fX5_ink fX2_ink_52 fX5_ink_69
  simp (disch := omega) only [q_inb (k := p), q_cl (a := p)]
  rw [if_pos hp, if_pos hp, (hR.2 p hp).1, (hR.2 p hp).2.1]
  generalize x / (6 : Int32) - dn p = row
  generalize (5 : Int32) - (x - x / (6 : Int32) * (6 : Int32) - ri p) = col
  rw [in5, in5]
  simp only [Option.bind_some]
  by_cases h1 : row < 0 ∨ 5 < row
  · rw [if_pos h1, if_pos c00]
    by_cases h2 : row < 0
    · rw [if_pos h2]; exact ⟨_, rfl, rfl⟩
    · rw [if_neg h2, if_pos (by rw [six_le h2]; exact h1.resolve_left h2)]; exact ⟨_, rfl, rfl⟩
  · rw [if_neg h1, if_neg c10, if_neg (fun h => h1 (Or.inl h)), if_neg (by rw [six_le (fun h => h1 (Or.inl h))]; exact fun h => h1 (Or.inr h))]
    by_cases h3 : col < 0 ∨ 5 < col
    · rw [if_pos h3, if_pos c00]
      by_cases h2 : col < 0
      · rw [if_pos h2]; exact ⟨_, rfl, rfl⟩
      · rw [if_neg h2, if_neg (by rw [i32_nlt, six_le h2]; exact h3.resolve_left h2)]; exact ⟨_, rfl, rfl⟩
    · rw [if_neg h3, if_neg c10, if_neg (fun h => h3 (Or.inl h)), if_pos (by rw [← i32_nle, six_le (fun h => h3 (Or.inl h))]; exact fun h => h3 (Or.inr h))]
      obtain ⟨a, ha, rfl⟩ := q_rng h1
      obtain ⟨b, hb, rfl⟩ := q_rng h3
      have i4 : nI p * (36 : Int32) + nI a * (6 : Int32) + nI b = nI (36 * p + 6 * a + b) := by
        rw [l36, l6, pk_mul, pk_mul, nI_add, nI_add]; exact congrArg nI (by omega)
      have i5 : (36 : Int32) * nI p + (6 : Int32) * nI a + nI b = nI (36 * p + 6 * a + b) := by
        rw [l36, l6, pk_mul, pk_mul, nI_add, nI_add]
      rw [i4, i5]
      have hj : 36 * p + 6 * a + b < 108 := by omega
      obtain ⟨e, d, hd, bd⟩ := hP _ hj
      rw [ta4 hj hd bd, if_pos (by rw [q_inb (by omega)]; omega), q_cl (by omega), e, hd, tn5 bd]
      exact ⟨_, rfl, rfl⟩
theorem colAt (hP : DOk D De) (hR : InvR dn ri st pu mdn mri mst mpu) (x : Int32) : ∃ t, fX2_colourAt dn ri D x = some t ∧ fX5_colourAt De mdn mri x = some t := by
  obtain ⟨a, a1, a2⟩ := ink hP hR (p := 0) (by omega) x
  obtain ⟨b, b1, b2⟩ := ink hP hR (p := 1) (by omega) x
  obtain ⟨c, c1, c2⟩ := ink hP hR (p := 2) (by omega) x
  unfold fX2_colourAt fX5_colourAt
  rw [← l0] at a1 a2
  rw [← l1] at b1 b2
  rw [← l2] at c1 c2
  rw [a1, a2, b1, b2, c1, c2]
  exact ⟨_, rfl, rfl⟩
theorem op_colour (hP : InvP K D L S sf T G De Li St Ke) (hR : InvR dn ri st pu mdn mri mst mpu) (hF : InvF F Fo) (p : Int32) : ∃ u v, fX4_colour D dn ri F p = some u ∧ fX5_colour De mdn mri Fo p = some v ∧ v.1 = u.1 ∧ InvF u.2 v.2 := by
  obtain ⟨t, t1, t2⟩ := colAt hP.dok hR p
  unfold fX4_colour fX5_colour fX4_colour_10
  rw [in5, fd1, fs1, t1, t2]
  simp only [Option.bind_some]
  by_cases h1 : p < 0 ∨ 35 < p
  · rw [if_pos h1, if_pos c00]
    by_cases h2 : p < 0
    · rw [if_pos h2]; exact ⟨_, _, rfl, rfl, rfl, hF.fnd (by decide)⟩
    · rw [if_neg h2]
      have h3 := h1.resolve_left h2
      obtain ⟨n, hn, rfl⟩ := q_of h2
      rw [show (35 : Int32) = nI 35 from rfl, q_lt (by omega) hn] at h3
      rw [if_neg (by rw [l36, q_lt hn (by omega)]; omega)]
      exact ⟨_, _, rfl, rfl, rfl, hF.fnd (by decide)⟩
  · rw [if_neg h1, if_neg c10, if_neg (fun h => h1 (Or.inl h))]
    obtain ⟨n, hn, rfl⟩ := rg_of (m := 35) (by omega) rfl h1
    rw [if_pos (by rw [l36, q_lt (by omega) (by omega)]; omega)]
    exact ⟨_, _, rfl, rfl, rfl, hF⟩
/-! guards -/
theorem op_guard {sp lo hi : Nat → Int32} {sz : Int32} {gc gl gh : Nat → Int32} {g : Int32} (hG : InvG sp lo hi sz gc gl gh g) (hF : InvF F Fo) (p q r : Int32) : ∃ u v, fX4_guard sp lo hi sz F p q r = some u ∧ fX5_guard g gc gl gh Fo p q r = some v ∧ v.1 = u.1 ∧ InvG u.2.1 u.2.2.1 u.2.2.2.1 u.2.2.2.2.1 v.2.2.1 v.2.2.2.1 v.2.2.2.2.1 v.2.1 ∧ InvF u.2.2.2.2.2 v.2.2.2.2.2 := by
  obtain ⟨rfl, n, pl, rfl, hn, hpl, hw⟩ := id hG
  unfold fX4_guard fX5_guard fX4_guard_30 fX5_guard_22
  rw [sp4, ic5, it4, it4, in5, fd1, fs1, fd3, fs3]
  cases hc : cellOf p with
  | none => exact ⟨_, _, rfl, rfl, rfl, hG, hF.fnd (by decide)⟩
  | some j =>
    have hj := cellOf_lt hc
    simp only [Option.bind_some]
    rw [if_neg (q_neg (by omega)), if_neg c10]
    by_cases hv : q < 0 ∨ r < q ∨ 15 < r
    · have e5 : (if (if q < 0 ∨ r < q then (0 : Int32) else 1) = 0 then some ((-1000001 : Int32), nI n, gc, gl, gh, upd Fo 1 (Fo 1 + 1)) else if r ≤ 15 then (if nI n ≤ 0 then fX5_guard_57 (nI n) gc gl gh Fo p q r else if inb 0 8 = true then if gc (0 : Int32).toNatClampNeg / 36 = p / 100 then fX5_guard_57 (nI n) gc gl gh Fo p q r else some ((-1000003 : Int32), nI n, gc, gl, gh, upd Fo 3 (Fo 3 + 1)) else none) else some ((-1000001 : Int32), nI n, gc, gl, gh, upd Fo 1 (Fo 1 + 1))) = some ((-1000001 : Int32), nI n, gc, gl, gh, upd Fo 1 (Fo 1 + 1)) := by
        by_cases h1 : q < 0 ∨ r < q
        · rw [if_pos h1, if_pos c00]
        · rw [if_neg h1, if_neg c10, if_neg]
          rw [i32_nle]
          rcases hv with h | h | h
          · exact absurd (Or.inl h) h1
          · exact absurd (Or.inr h) h1
          · exact h
      rw [e5]
      by_cases h1 : q < 0 ∨ 15 < q
      · rw [if_pos h1, if_pos c00]; exact ⟨_, _, rfl, rfl, rfl, hG, hF.fnd (by decide)⟩
      · rw [if_neg h1, if_neg c10]
        by_cases h2 : r < 0 ∨ 15 < r
        · rw [if_pos h2, if_pos c00]; exact ⟨_, _, rfl, rfl, rfl, hG, hF.fnd (by decide)⟩
        · rw [if_neg h2, if_neg c10, if_neg]
          · exact ⟨_, _, rfl, rfl, rfl, hG, hF.fnd (by decide)⟩
          · rw [i32_nle]
            rcases hv with h | h | h
            · exact absurd (Or.inl h) h1
            · exact h
            · exact absurd (Or.inr h) h2
    · have a0 : ¬ q < 0 := fun h => hv (Or.inl h)
      obtain ⟨a, ha, rfl⟩ := q_of a0
      have b0 : ¬ r < nI a := fun h => hv (Or.inr (Or.inl h))
      have b1 : ¬ r < 0 := fun h => b0 (Int32.lt_of_lt_of_le h (nI_pos' ha))
      obtain ⟨b, hb, rfl⟩ := q_of b1
      rw [q_lt hb ha] at b0
      have b2 : ¬ (15 : Int32) < nI b := fun h => hv (Or.inr (Or.inr h))
      rw [l15, q_lt (by omega) hb] at b2
      rw [if_neg (show ¬ (nI a < 0 ∨ 15 < nI a) from fun h => h.elim a0 (fun h => by rw [l15, q_lt (by omega) ha] at h; omega)), if_neg c10, if_neg (show ¬ (nI b < 0 ∨ 15 < nI b) from fun h => h.elim b1 (fun h => by rw [l15, q_lt (by omega) hb] at h; omega)), if_neg c10, if_pos (show nI a ≤ nI b by rw [q_le ha hb]; omega), if_neg (show ¬ (nI a < 0 ∨ nI b < nI a) from fun h => h.elim a0 (fun h => by rw [q_lt hb ha] at h; omega)), if_neg c10, if_pos (show nI b ≤ (15 : Int32) by rw [l15, q_le hb (by omega)]; omega)]
      have fin : n = 0 ∨ j / 36 = pl → ∃ u v, fX4_guard_69 sp lo hi (nI n) F (nI a) (nI b) (nI j) = some u ∧ fX5_guard_57 (nI n) gc gl gh Fo p (nI a) (nI b) = some v ∧ v.1 = u.1 ∧ InvG u.2.1 u.2.2.1 u.2.2.2.1 u.2.2.2.2.1 v.2.2.1 v.2.2.2.1 v.2.2.2.2.1 v.2.1 ∧ InvF u.2.2.2.2.2 v.2.2.2.2.2 := by
        intro hpp
        unfold fX4_guard_69 fX5_guard_57 fX0_addGuard
        rw [fd4, fs4, (sp5 hc).1]
        simp (disch := omega) only [Option.bind_some, q_inb, q_cl, l8, q_lt, q_eq, nx]
        by_cases h8 : n = 8
        · rw [if_neg (show ¬ n < 8 by omega), if_pos h8]
          exact ⟨_, _, rfl, rfl, rfl, hG, hF.fnd (by decide)⟩
        · rw [if_pos (show n < 8 by omega), if_pos (show n < 8 by omega), if_neg h8, if_pos (show n < 8 by omega)]
          refine ⟨_, _, rfl, rfl, rfl, ⟨rfl, n + 1, j / 36, rfl, by omega, by omega, fun i ht => ?_⟩, hF⟩
          show upd gc n (nI j) i = upd sp n (nI j) i ∧ upd gl n (nI a) i = upd lo n (nI a) i ∧ upd gh n (nI b) i = upd hi n (nI b) i ∧ ∃ c x y : Nat, upd sp n (nI j) i = nI c ∧ c / 36 = j / 36 ∧ upd lo n (nI a) i = nI x ∧ upd hi n (nI b) i = nI y ∧ x ≤ y ∧ y ≤ 15
          by_cases e : i = n
          · simp only [e, up_at]
            exact ⟨trivial, trivial, trivial, j, a, b, rfl, rfl, rfl, rfl, by omega, by omega⟩
          · simp only [up_ne _ _ e]
            obtain ⟨w1, w2, w3, c, x, y, w4, w5, w6⟩ := hw i (by omega)
            exact ⟨w1, w2, w3, c, x, y, w4, by omega, w6⟩
      unfold fX0_plateOfAll
      rw [(sp5 hc).2, show ((0 : Int32).toNatClampNeg) = 0 from rfl, if_pos in08, if_pos in08]
      simp only [Option.bind_some]
      by_cases h0 : n = 0
      · rw [if_pos (show nI n ≤ 0 by rw [l0, q_le (by omega) (by omega)]; omega), if_pos (show nI n ≤ 0 by rw [l0, q_le (by omega) (by omega)]; omega)]
        exact fin (Or.inl h0)
      · rw [if_neg (show ¬ nI n ≤ 0 by rw [l0, q_le (by omega) (by omega)]; omega), if_neg (show ¬ nI n ≤ 0 by rw [l0, q_le (by omega) (by omega)]; omega)]
        obtain ⟨w1, w2, w3, c, x, y, w4, w5, w6⟩ := hw 0 (by omega)
        rw [w1, w4, l36, q_div (by omega) (by omega) (by omega), q_div (by omega) (by omega) (by omega)]
        by_cases h2 : c / 36 = j / 36
        · rw [if_pos (congrArg nI h2), if_pos (congrArg nI h2)]
          exact fin (Or.inr (by omega))
        · rw [if_neg (fun h => h2 (q_inj (by omega) (by omega) h)), if_neg (fun h => h2 (q_inj (by omega) (by omega) h))]
          exact ⟨_, _, rfl, rfl, rfl, hG, hF.fnd (by decide)⟩
/-! numbers that wait -/
theorem check_lp (hP : DOk D De) {nu to : Nat → Int32} {w p : Nat} (hw : w ≤ 36) (hp : p < 3) (hN : ∀ i, i < w → to i = nu i) : ∀ (m n n' i : Nat), i + m = w → m < n → m < n' → ∃ r, fX4_check_26 D nu F (nI w) (nI p) n (nI i) = some (r, F, 0) ∧ fX5_check_25 De (nI w) to Fo (nI p) n' (nI i) = some (r, 0, Fo) := by
  intro m
  induction m with
  | zero =>
    intro n n' i h1 h2 h3
    obtain ⟨n, rfl⟩ := n_suc h2
    obtain ⟨n', rfl⟩ := n_suc h3
    rw [fX4_check_26, fX5_check_25, if_pos (by rw [q_le (by omega) (by omega)]; omega), if_pos (by rw [q_le (by omega) (by omega)]; omega)]
    exact ⟨_, rfl, rfl⟩
  | succ m ih =>
    intro n n' i h1 h2 h3
    obtain ⟨n, rfl⟩ := n_suc h2
    obtain ⟨n', rfl⟩ := n_suc h3
    have hj : 36 * p + i < 108 := by omega
    obtain ⟨e, d, hd, bd⟩ := hP _ hj
    have hc : ¬ nI w ≤ nI i := by rw [q_le (by omega) (by omega)]; omega
    rw [fX4_check_26, fX5_check_25, if_neg hc, if_neg hc, s4h, s5h, nI_add, ta4 hj hd bd]
    simp (disch := omega) only [q_inb, q_cl, Option.bind_some]
    rw [if_pos (show i < 36 by omega), if_pos (show i < 36 by omega), if_pos (show 36 * p + i < 648 by omega), e, hd, tn5 bd, hN i (by omega)]
    simp only [Option.bind_some]
    by_cases h : nu i = nI (tn d)
    · rw [if_pos h, if_pos h, nx]
      exact ih n n' (i + 1) (by omega) (by omega) (by omega)
    · rw [if_neg h, if_neg h]
      exact ⟨_, rfl, rfl⟩
theorem op_check (hP : InvP K D L S sf T G De Li St Ke) {nu : Nat → Int32} {wa : Int32} {to : Nat → Int32} {mw : Int32} (hN : InvN nu wa to mw) (hF : InvF F Fo) (p : Int32) : ∃ u v, fX4_check D nu F wa p = some u ∧ fX5_check De mw to Fo p = some v ∧ v.1 = u.1 ∧ InvN nu u.2.2 to v.2.1 ∧ InvF u.2.1 v.2.2 := by
  obtain ⟨rfl, n, rfl, hn, hw⟩ := id hN
  have hN0 : InvN nu 0 to 0 := ⟨rfl, 0, rfl, by omega, fun i hi => absurd hi (by omega)⟩
  unfold fX4_check fX5_check
  rw [ip4, ip5, fd1, fs1]
  simp only [Option.bind_some]
  by_cases hp : p < 0 ∨ 2 < p
  · rw [if_pos hp, if_pos c00, if_pos c00]
    exact ⟨_, _, rfl, rfl, rfl, hN0, hF.fnd (by decide)⟩
  · rw [if_neg hp, if_neg c10, if_neg c10]
    obtain ⟨k, hk, rfl⟩ := pl_of hp
    obtain ⟨r, r1, r2⟩ := check_lp (F := F) (Fo := Fo) hP.dok hn hk hw n 100000 100000 0 (by omega) (by omega) (by omega)
    rw [l0, r1, r2]
    exact ⟨_, _, rfl, rfl, rfl, hN0, hF⟩
/-! counts -/
theorem so4 (S : Nat → Int32) : ∀ (m n i a : Nat), i + m = 108 → m < n → fX1_stoppedOfAll_4 S n (nI a) (nI i) = some (nI (a + cs S i m)) := by
  intro m
  induction m with
  | zero =>
    intro n i a h1 h2
    obtain ⟨n, rfl⟩ := n_suc h2
    rw [fX1_stoppedOfAll_4, if_pos (by rw [l108, q_le (by omega) (by omega)]; omega)]
    rfl
  | succ m ih =>
    intro n i a h1 h2
    obtain ⟨n, rfl⟩ := n_suc h2
    rw [fX1_stoppedOfAll_4, if_neg (by rw [l108, q_le (by omega) (by omega)]; omega), if_pos (by rw [q_inb (by omega)]; omega), q_cl (by omega)]
    unfold fX1_stoppedOfAll_22
    rw [nx, nx, ih n (i + 1) a (by omega) (by omega), ih n (i + 1) (a + 1) (by omega) (by omega), cs]
    by_cases h0 : S i = 0
    · rw [if_pos h0, if_pos h0, Nat.zero_add]
    · rw [if_neg h0, if_neg h0]
      exact congrArg (fun z => some (nI z)) (by omega)
theorem so5 (S Fo : Nat → Int32) : ∀ (m n i a : Nat), i + m = 108 → m < n → fX5_count_98 S Fo n (nI a) (nI i) = some (nI (a + cs S i m), Fo) := by
  intro m
  induction m with
  | zero =>
    intro n i a h1 h2
    obtain ⟨n, rfl⟩ := n_suc h2
    rw [fX5_count_98, if_pos (by rw [l108, q_le (by omega) (by omega)]; omega)]
    rfl
  | succ m ih =>
    intro n i a h1 h2
    obtain ⟨n, rfl⟩ := n_suc h2
    rw [fX5_count_98, if_neg (by rw [l108, q_le (by omega) (by omega)]; omega), if_pos (by rw [q_inb (by omega)]; omega), q_cl (by omega)]
    unfold fX5_count_119
    rw [nx, nx, show nI a + (0 : Int32) = nI a by rw [l0, nI_add]; rfl, ih n (i + 1) a (by omega) (by omega), ih n (i + 1) (a + 1) (by omega) (by omega), cs]
    by_cases h0 : S i = 0
    · rw [if_pos h0, if_pos h0, Nat.zero_add]
    · rw [if_neg h0, if_neg h0]
      exact congrArg (fun z => some (nI z, Fo)) (by omega)
theorem sk4 {sf : Nat → Option Nat} {Ke : Nat → Int32} (h : ∀ k, k < 4 → (sf k = none ↔ Ke k = 0)) : ∀ (m n i a : Nat), i + m = 4 → m < n → fX4_statesKept_4 sf n (nI a) (nI i) = some (nI (a + cs Ke i m)) := by
  intro m
  induction m with
  | zero =>
    intro n i a h1 h2
    obtain ⟨n, rfl⟩ := n_suc h2
    rw [fX4_statesKept_4, if_pos (by rw [l4, q_le (by omega) (by omega)]; omega)]
    rfl
  | succ m ih =>
    intro n i a h1 h2
    obtain ⟨n, rfl⟩ := n_suc h2
    rw [fX4_statesKept_4, if_neg (by rw [l4, q_le (by omega) (by omega)]; omega), if_pos (by rw [q_inb (by omega)]; omega), q_cl (by omega)]
    unfold fX4_statesKept_21
    rw [nx, nx, ih n (i + 1) a (by omega) (by omega), ih n (i + 1) (a + 1) (by omega) (by omega), cs]
    by_cases h0 : Ke i = 0
    · rw [if_pos ((h i (by omega)).mpr h0), if_pos h0, Nat.zero_add]
    · rw [if_neg (fun e => h0 ((h i (by omega)).mp e)), if_neg h0]
      exact congrArg (fun z => some (nI z)) (by omega)
theorem sk5 (Ke Fo : Nat → Int32) : ∀ (m n i a : Nat), i + m = 4 → m < n → fX5_count_61 Ke Fo n (nI a) (nI i) = some (nI (a + cs Ke i m), Fo) := by
  intro m
  induction m with
  | zero =>
    intro n i a h1 h2
    obtain ⟨n, rfl⟩ := n_suc h2
    rw [fX5_count_61, if_pos (by rw [l4, q_le (by omega) (by omega)]; omega)]
    rfl
  | succ m ih =>
    intro n i a h1 h2
    obtain ⟨n, rfl⟩ := n_suc h2
    rw [fX5_count_61, if_neg (by rw [l4, q_le (by omega) (by omega)]; omega), if_pos (by rw [q_inb (by omega)]; omega), q_cl (by omega)]
    unfold fX5_count_81
    rw [nx, nx, show nI a + (0 : Int32) = nI a by rw [l0, nI_add]; rfl, ih n (i + 1) a (by omega) (by omega), ih n (i + 1) (a + 1) (by omega) (by omega), cs]
    by_cases h0 : Ke i = 0
    · rw [if_pos h0, if_pos h0, Nat.zero_add]
    · rw [if_neg h0, if_neg h0]
      exact congrArg (fun z => some (nI z, Fo)) (by omega)
theorem InvP.kept (hP : InvP K D L S sf T G De Li St Ke) : ∀ k, k < 4 → (sf k = none ↔ Ke k = 0) := fun k hk => by
  rcases hP.2 k hk with ⟨a, b⟩ | ⟨a, b, _⟩
  · exact ⟨fun _ => b, fun _ => a⟩
  · exact ⟨fun h => absurd h a, fun h => absurd (b.symm.trans h) (by decide)⟩
theorem op_count (hP : InvP K D L S sf T G De Li St Ke) {s1 h1 s2 h2 ws gs wa w g mw : Int32} (hB : InvB s1 h1 s2 h2) (hW : w = ws) (hG : g = gs) (hN : mw = wa) (hR : mpu = pu) (hF : InvF F Fo) (p : Int32) : ∃ u v, fX4_count S sf ws pu gs F wa s1 h1 p = some u ∧ fX5_count St Ke s2 h2 w mpu g mw Fo p = some v ∧ v.1 = u.1 ∧ InvF u.2 v.2 := by
  obtain ⟨rfl, rfl, a, b, rfl, rfl, b1, b2, b3⟩ := hB
  subst hW; subst hG; subst hN; subst hR
  unfold fX4_count fX5_count fX4_statesKept fX1_stoppedOfAll
  rw [bi4 b2 b3, bi5 b2 b3, fd1, fs1]
  by_cases e0 : p = 0
  · rw [if_pos e0, if_pos e0]; exact ⟨_, _, rfl, rfl, rfl, hF⟩
  · rw [if_neg e0, if_neg e0]
    by_cases e1 : p = 1
    · rw [if_pos e1, if_pos e1]; exact ⟨_, _, rfl, rfl, rfl, hF⟩
    · rw [if_neg e1, if_neg e1]
      by_cases e2 : p = 2
      · rw [if_pos e2, if_pos e2]; exact ⟨_, _, rfl, rfl, rfl, hF⟩
      · rw [if_neg e2, if_neg e2]
        by_cases e3 : p = 3
        · rw [if_pos e3, if_pos e3, l0, sk4 hP.kept 4 100000 0 0 (by omega) (by omega), sk5 Ke Fo 4 100000 0 0 (by omega) (by omega)]
          exact ⟨_, _, rfl, rfl, rfl, hF⟩
        · rw [if_neg e3, if_neg e3]
          by_cases e4 : p = 4
          · rw [if_pos e4, if_pos e4]; exact ⟨_, _, rfl, rfl, rfl, hF⟩
          · rw [if_neg e4, if_neg e4]
            by_cases e5 : p = 5
            · rw [if_pos e5, if_pos e5, l0, so4 S 108 100000 0 0 (by omega) (by omega), so5 St Fo 108 100000 0 0 (by omega) (by omega)]
              exact ⟨_, _, rfl, rfl, congrArg (fun z => nI (0 + z)) (cs_congr 108 0 (fun j h1 h2 => (hP.at (by omega)).2.2.2.2)), hF⟩
            · rw [if_neg e5, if_neg e5]
              by_cases e6 : p = 6
              · rw [if_pos e6, if_pos e6]; exact ⟨_, _, rfl, rfl, rfl, hF⟩
              · rw [if_neg e6, if_neg e6]; exact ⟨_, _, rfl, rfl, rfl, hF.fnd (by decide)⟩
end OPS3
