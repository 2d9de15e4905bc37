/-! pulls and editions -/
def wr (d : Nat) : Nat := d - d / 50
def wn : Nat → Nat → Nat
  | 0, d => d
  | n + 1, d => wn n (wr d)
theorem wr_le (d : Nat) : wr d ≤ d := by unfold wr; omega
theorem wn_le : ∀ n d, wn n d ≤ d
  | 0, d => Nat.le_refl d
  | n + 1, d => Nat.le_trans (wn_le n (wr d)) (wr_le d)
theorem wn_wr : ∀ n d, wr (wn n d) = wn (n + 1) d
  | 0, _ => rfl
  | n + 1, d => wn_wr n (wr d)
theorem wn_fix {d : Nat} (h : wr d = d) : ∀ n, wn n d = d
  | 0 => rfl
  | n + 1 => by rw [wn, h]; exact wn_fix h n
theorem wo4 {d : Nat} (h : d ≤ 9999) : fX4_worn (nI d) = some (nI (wr d)) := by
  unfold fX4_worn wr
  rw [l50, q_div (by omega) (by omega) (by omega), q_sub (by omega)]
theorem wo5 {d : Nat} (h : d ≤ 9999) : nI d - nI d / (50 : Int32) = nI (wr d) := by
  unfold wr
  rw [l50, q_div (by omega) (by omega) (by omega), q_sub (by omega)]
theorem wi4 (D : Nat → Int32) (k5 : Int32 → (Nat → Int32) → Option (Nat → Int32)) {i N : Nat} (hi : i < 108) (hN : N ≤ 100) : ∀ (m fu x d : Nat), x + m = N → m < fu → d ≤ 9999 → fX2_wearPlate_26 (nI N) (nI i) D k5 fu (nI d) (nI x) = k5 (nI (i + 1)) (upd D i (nI (wn m d))) := by
  intro m
  induction m with
  | zero =>
    intro fu x d h1 h2 h3
    obtain ⟨fu, rfl⟩ := n_suc h2
    rw [fX2_wearPlate_26, if_pos (by rw [q_le (by omega) (by omega)]; omega)]
    unfold fX2_wearPlate_55
    rw [q_cl (by omega), nx]
    rfl
  | succ m ih =>
    intro fu x d h1 h2 h3
    obtain ⟨fu, rfl⟩ := n_suc h2
    have hw := wr_le d
    rw [fX2_wearPlate_26, if_neg (by rw [q_le (by omega) (by omega)]; omega), wo4 h3]
    simp only [Option.bind_some]
    by_cases h : d ≤ wr d
    · rw [if_pos (by rw [q_le (by omega) (by omega)]; exact h)]
      unfold fX2_wearPlate_55
      rw [q_cl (by omega), nx, wn_fix (by omega)]
    · rw [if_neg (by rw [q_le (by omega) (by omega)]; exact h), nx, ih fu (x + 1) _ (by omega) (by omega) (by omega)]
      rfl
theorem wp4 {p N : Nat} (hp : p < 3) (hN : N ≤ 100) (D0 : Nat → Int32) (h0 : ∀ j, j < 108 → ∃ d : Nat, D0 j = nI d ∧ d ≤ 9999) : ∀ (m fu i : Nat) (D : Nat → Int32), i + m = 36 * p + 36 → 36 * p ≤ i → m < fu → (∀ j, i ≤ j → D j = D0 j) → fX2_wearPlate_5 (nI p) (nI N) fu (nI i) D = some (fun j => if i ≤ j ∧ j < i + m then nI (wn N (dc (D0 j))) else D j) := by
  intro m
  induction m with
  | zero =>
    intro fu i D h1 h3 h2 h4
    obtain ⟨fu, rfl⟩ := n_suc h2
    rw [fX2_wearPlate_5, e4h, if_pos (by rw [q_le (by omega) (by omega)]; omega)]
    exact congrArg some (funext fun j => (if_neg (by omega)).symm)
  | succ m ih =>
    intro fu i D h1 h3 h2 h4
    obtain ⟨fu, rfl⟩ := n_suc h2
    obtain ⟨d, hd, bd⟩ := h0 i (by omega)
    rw [fX2_wearPlate_5, e4h, if_neg (by rw [q_le (by omega) (by omega)]; omega), if_pos (by rw [q_inb (by omega)]; omega), q_cl (by omega), h4 i (Nat.le_refl _), hd, l0, wi4 D _ (by omega) hN N 100000 0 d (by omega) (by omega) bd, ih fu (i + 1) _ (by omega) (by omega) (by omega) (fun j hj => by rw [up_ne _ _ (by omega)]; exact h4 j (by omega))]
    refine congrArg some (funext fun j => ?_)
    by_cases h : i + 1 ≤ j ∧ j < i + 1 + m
    · rw [if_pos h, if_pos (by omega)]
    · rw [if_neg h]
      by_cases e : j = i
      · rw [e, up_at, if_pos (by omega), hd, dc_nI (by omega)]
      · rw [up_ne _ _ e, if_neg (by omega)]
def ND (N : Nat) (st D : Nat → Int32) : Nat → Int32 := fun j => if j < 108 then nI (wn (N - dc (st (j / 36))) (dc (D j))) else D j
def NS (N : Nat) (st : Nat → Int32) : Nat → Int32 := fun q => if q < 3 then nI (dc (st q) - N) else st q
theorem pa4 {N : Nat} (hN : N ≤ 100) (pu : Int32) (st D : Nat → Int32) (h0 : ∀ j, j < 108 → ∃ d : Nat, D j = nI d ∧ d ≤ 9999) (hs : ∀ q, q < 3 → ∃ z : Nat, st q = nI z ∧ z ≤ 100) : ∀ (m fu x : Nat) (s' D' : Nat → Int32), x + m = 3 → m < fu → (∀ q, x ≤ q → s' q = st q) → (∀ j, 36 * x ≤ j → D' j = D j) → (∀ j, j < 108 → ∃ d : Nat, D' j = nI d ∧ d ≤ 9999) → fX2_pullAll_2 pu (nI N) fu (nI x) s' D' = some ((fun q => if x ≤ q ∧ q < 3 then nI (dc (st q) - N) else s' q), pu + nI N, fun j => if 36 * x ≤ j ∧ j < 108 then nI (wn (N - dc (st (j / 36))) (dc (D j))) else D' j) := by
  intro m
  induction m with
  | zero =>
    intro fu x s' D' h1 h2 h3 h4 h5
    obtain ⟨fu, rfl⟩ := n_suc h2
    rw [fX2_pullAll_2, if_pos (by rw [l3, q_le (by omega) (by omega)]; omega)]
    have e1 : (fun q => if x ≤ q ∧ q < 3 then nI (dc (st q) - N) else s' q) = s' := funext fun q => if_neg (by omega)
    have e2 : (fun j => if 36 * x ≤ j ∧ j < 108 then nI (wn (N - dc (st (j / 36))) (dc (D j))) else D' j) = D' := funext fun q => if_neg (by omega)
    rw [e1, e2]
  | succ m ih =>
    intro fu x s' D' h1 h2 h3 h4 h5
    obtain ⟨fu, rfl⟩ := n_suc h2
    obtain ⟨z, hz, bz⟩ := hs x (by omega)
    rw [fX2_pullAll_2, if_neg (by rw [l3, q_le (by omega) (by omega)]; omega), if_pos (by rw [q_inb (by omega)]; omega), q_cl (by omega), h3 x (Nat.le_refl _), hz]
    have e0 : (if nI z < nI N then nI z else nI N) = nI (if z < N then z else N) := by
      simp (disch := omega) only [q_lt]
      by_cases h : z < N
      · rw [if_pos h, if_pos h]
      · rw [if_neg h, if_neg h]
    have e1 : (if z < N then z else N) ≤ N ∧ (if z < N then z else N) ≤ z ∧ N - (if z < N then z else N) = N - z ∧ z - (if z < N then z else N) = z - N := by split <;> omega
    rw [e0, q_sub e1.1, q_sub e1.2.1, e1.2.2.1, e1.2.2.2]
    unfold fX2_wearPlate
    rw [s4h, wp4 (by omega) (by omega) D' h5 36 100000 (36 * x) D' (by omega) (by omega) (by omega) (fun _ _ => rfl)]
    simp only [Option.bind_some]
    rw [nx, ih fu (x + 1) _ _ (by omega) (by omega) (fun q hq => by rw [up_ne _ _ (by omega)]; exact h3 q (by omega)) (fun j hj => by rw [if_neg (by omega)]; exact h4 j (by omega))]
    · have e1 : (fun q => if x + 1 ≤ q ∧ q < 3 then nI (dc (st q) - N) else upd s' x (nI (z - N)) q) = fun q => if x ≤ q ∧ q < 3 then nI (dc (st q) - N) else s' q := funext fun q => by
        by_cases h : x + 1 ≤ q ∧ q < 3
        · rw [if_pos h, if_pos (by omega)]
        · rw [if_neg h]
          by_cases e : q = x
          · rw [e, up_at, if_pos (by omega), hz, dc_nI (by omega)]
          · rw [up_ne _ _ e, if_neg (by omega)]
      have e2 : (fun j => if 36 * (x + 1) ≤ j ∧ j < 108 then nI (wn (N - dc (st (j / 36))) (dc (D j))) else if 36 * x ≤ j ∧ j < 36 * x + 36 then nI (wn (N - z) (dc (D' j))) else D' j) = fun j => if 36 * x ≤ j ∧ j < 108 then nI (wn (N - dc (st (j / 36))) (dc (D j))) else D' j := funext fun j => by
        by_cases h : 36 * (x + 1) ≤ j ∧ j < 108
        · rw [if_pos h, if_pos (by omega)]
        · rw [if_neg h]
          by_cases h9 : 36 * x ≤ j ∧ j < 36 * x + 36
          · rw [if_pos h9, if_pos (by omega), show j / 36 = x by omega, hz, dc_nI (by omega), h4 j (by omega)]
          · rw [if_neg h9, if_neg (by omega)]
      rw [e1, e2]
    · intro j hj
      by_cases h9 : 36 * x ≤ j ∧ j < 36 * x + 36
      · rw [if_pos h9]
        obtain ⟨d, hd, bd⟩ := h5 j hj
        exact ⟨_, rfl, by rw [hd, dc_nI (by omega)]; exact Nat.le_trans (wn_le _ _) bd⟩
      · rw [if_neg h9]; exact h5 j hj
theorem pal4 {N : Nat} (hN : N ≤ 100) (pu : Int32) (st D : Nat → Int32) (h0 : ∀ j, j < 108 → ∃ d : Nat, D j = nI d ∧ d ≤ 9999) (hs : ∀ q, q < 3 → ∃ z : Nat, st q = nI z ∧ z ≤ 100) : fX2_pullAll st pu D (nI N) = some (NS N st, pu + nI N, ND N st D) := by
  have h := pa4 hN pu st D h0 hs 3 100000 0 st D (by omega) (by omega) (fun _ _ => rfl) (fun _ _ => rfl) h0
  have e1 : (fun q => if 0 ≤ q ∧ q < 3 then nI (dc (st q) - N) else st q) = NS N st := funext fun q => by
    unfold NS
    by_cases h : q < 3
    · rw [if_pos h, if_pos (by omega)]
    · rw [if_neg h, if_neg (by omega)]
  have e2 : (fun j => if 36 * 0 ≤ j ∧ j < 108 then nI (wn (N - dc (st (j / 36))) (dc (D j))) else D j) = ND N st D := funext fun j => by
    unfold ND
    by_cases h : j < 108
    · rw [if_pos h, if_pos (by omega)]
    · rw [if_neg h, if_neg (by omega)]
  rw [e1, e2] at h
  exact h
/-! the reference: pull by pull -/
theorem wr5 (st : Nat → Int32) {p : Nat} (hp : p < 3) (D0 : Nat → Int32) (h0 : ∀ j, j < 108 → ∃ d : Nat, D0 j = nI d ∧ d ≤ 9999) : ∀ (m fu i : Nat) (D : Nat → Int32), i + m = 36 * p + 36 → 36 * p ≤ i → m < fu → (∀ j, i ≤ j → D j = D0 j) → fX5_wears_25 st (nI p) fu (nI i) D = some ((fun j => if i ≤ j ∧ j < i + m then nI (wr (dc (D0 j))) else D j), st) := by
  intro m
  induction m with
  | zero =>
    intro fu i D h1 h3 h2 h4
    obtain ⟨fu, rfl⟩ := n_suc h2
    rw [fX5_wears_25, e5h, if_pos (by rw [q_le (by omega) (by omega)]; omega)]
    exact congrArg (fun z => some (z, st)) (funext fun j => (if_neg (by omega)).symm)
  | succ m ih =>
    intro fu i D h1 h3 h2 h4
    obtain ⟨fu, rfl⟩ := n_suc h2
    obtain ⟨d, hd, bd⟩ := h0 i (by omega)
    rw [fX5_wears_25, e5h, if_neg (by rw [q_le (by omega) (by omega)]; omega), if_pos (by rw [q_inb (by omega)]; omega), q_cl (by omega), h4 i (Nat.le_refl _), hd, wo5 bd, nx, ih fu (i + 1) _ (by omega) (by omega) (by omega) (fun j hj => by rw [up_ne _ _ (by omega)]; exact h4 j (by omega))]
    refine congrArg (fun z => some (z, st)) (funext fun j => ?_)
    by_cases h : i + 1 ≤ j ∧ j < i + 1 + m
    · rw [if_pos h, if_pos (by omega)]
    · rw [if_neg h]
      by_cases e : j = i
      · rw [e, up_at, if_pos (by omega), hd, dc_nI (by omega)]
      · rw [up_ne _ _ e, if_neg (by omega)]
theorem wea5 {D st : Nat → Int32} {p z : Nat} (hp : p < 3) (h0 : ∀ j, j < 108 → ∃ d : Nat, D j = nI d ∧ d ≤ 9999) (hz : st p = nI z) (bz : z ≤ 100) : fX5_wears D st (nI p) = some (if z = 0 then (fun j => if 36 * p ≤ j ∧ j < 36 * p + 36 then nI (wr (dc (D j))) else D j, st) else (D, upd st p (nI (z - 1)))) := by
  unfold fX5_wears
  rw [if_pos (by rw [q_inb (by omega)]; omega), q_cl (by omega), hz]
  by_cases h : z = 0
  · rw [if_pos (by rw [l0, q_le (by omega) (by omega)]; omega), if_pos h, s5h, wr5 st hp D h0 36 100000 (36 * p) D (by omega) (by omega) (by omega) (fun _ _ => rfl)]
  · rw [if_neg (by rw [l0, q_le (by omega) (by omega)]; omega), if_neg h, l1, q_sub (by omega)]
theorem p25 (x18 : Int32) (k18 : Int32 → (Nat → Int32) → (Nat → Int32) → Option (Int32 × (Nat → Int32) × (Nat → Int32) × Int32 × (Nat → Int32))) (st D : Nat → Int32) (hs : ∀ q, q < 3 → ∃ z : Nat, st q = nI z ∧ z ≤ 100) : ∀ (m fu p : Nat) (D' s' : Nat → Int32), p + m = 3 → m < fu → (∀ q, p ≤ q → s' q = st q) → (∀ j, 36 * p ≤ j → D' j = D j) → (∀ j, j < 108 → ∃ d : Nat, D' j = nI d ∧ d ≤ 9999) → fX5_pull_25 x18 k18 fu (nI p) D' s' = k18 (x18 + 1) (fun j => if 36 * p ≤ j ∧ j < 108 then (if dc (st (j / 36)) = 0 then nI (wr (dc (D j))) else D j) else D' j) (fun q => if p ≤ q ∧ q < 3 then nI (dc (st q) - 1) else s' q) := by
  intro m
  induction m with
  | zero =>
    intro fu p D' s' h1 h2 h3 h4 h5
    obtain ⟨fu, rfl⟩ := n_suc h2
    rw [fX5_pull_25, if_pos (by rw [l3, q_le (by omega) (by omega)]; omega)]
    have e1 : (fun j => if 36 * p ≤ j ∧ j < 108 then (if dc (st (j / 36)) = 0 then nI (wr (dc (D j))) else D j) else D' j) = D' := funext fun q => if_neg (by omega)
    have e2 : (fun q => if p ≤ q ∧ q < 3 then nI (dc (st q) - 1) else s' q) = s' := funext fun q => if_neg (by omega)
    rw [e1, e2]
    rfl
  | succ m ih =>
    intro fu p D' s' h1 h2 h3 h4 h5
    obtain ⟨fu, rfl⟩ := n_suc h2
    obtain ⟨z, hz, bz⟩ := hs p (by omega)
    rw [fX5_pull_25, if_neg (by rw [l3, q_le (by omega) (by omega)]; omega), wea5 (by omega) h5 ((h3 p (Nat.le_refl _)).trans hz) bz]
    simp only [Option.bind_some]
    by_cases h0 : z = 0
    · rw [if_pos h0]
      dsimp only
      rw [nx, ih fu (p + 1) _ _ (by omega) (by omega) (fun q hq => h3 q (by omega)) (fun j hj => by rw [if_neg (by omega)]; exact h4 j (by omega))]
      · have e1 : (fun j => if 36 * (p + 1) ≤ j ∧ j < 108 then (if dc (st (j / 36)) = 0 then nI (wr (dc (D j))) else D j) else if 36 * p ≤ j ∧ j < 36 * p + 36 then nI (wr (dc (D' j))) else D' j) = fun j => if 36 * p ≤ j ∧ j < 108 then (if dc (st (j / 36)) = 0 then nI (wr (dc (D j))) else D j) else D' j := funext fun j => by
          by_cases h : 36 * (p + 1) ≤ j ∧ j < 108
          · rw [if_pos h, if_pos (show 36 * p ≤ j ∧ j < 108 by omega)]
          · rw [if_neg h]
            by_cases h9 : 36 * p ≤ j ∧ j < 36 * p + 36
            · rw [if_pos h9, if_pos (show 36 * p ≤ j ∧ j < 108 by omega), show j / 36 = p by omega, hz, dc_nI (by omega), if_pos h0, h4 j (by omega)]
            · rw [if_neg h9, if_neg (show ¬ (36 * p ≤ j ∧ j < 108) by omega)]
        have e2 : (fun q => if p + 1 ≤ q ∧ q < 3 then nI (dc (st q) - 1) else s' q) = fun q => if p ≤ q ∧ q < 3 then nI (dc (st q) - 1) else s' q := funext fun q => by
          by_cases h : p + 1 ≤ q ∧ q < 3
          · rw [if_pos h, if_pos (by omega)]
          · rw [if_neg h]
            by_cases e : q = p
            · rw [e, if_pos (by omega), h3 p (Nat.le_refl _), hz, dc_nI (by omega), h0]
            · rw [if_neg (by omega)]
        rw [e1, e2]
      · intro j hj
        by_cases h9 : 36 * p ≤ j ∧ j < 36 * p + 36
        · rw [if_pos h9]
          obtain ⟨d, hd, bd⟩ := h5 j hj
          exact ⟨_, rfl, by rw [hd, dc_nI (by omega)]; exact Nat.le_trans (wr_le _) bd⟩
        · rw [if_neg h9]; exact h5 j hj
    · rw [if_neg h0]
      dsimp only
      rw [nx, ih fu (p + 1) _ _ (by omega) (by omega) (fun q hq => by rw [up_ne _ _ (by omega)]; exact h3 q (by omega)) (fun j hj => h4 j (by omega)) h5]
      have e1 : (fun j => if 36 * (p + 1) ≤ j ∧ j < 108 then (if dc (st (j / 36)) = 0 then nI (wr (dc (D j))) else D j) else D' j) = fun j => if 36 * p ≤ j ∧ j < 108 then (if dc (st (j / 36)) = 0 then nI (wr (dc (D j))) else D j) else D' j := funext fun j => by
        by_cases h : 36 * (p + 1) ≤ j ∧ j < 108
        · rw [if_pos h, if_pos (show 36 * p ≤ j ∧ j < 108 by omega)]
        · rw [if_neg h]
          by_cases h9 : 36 * p ≤ j ∧ j < 36 * p + 36
          · rw [if_pos (show 36 * p ≤ j ∧ j < 108 by omega), show j / 36 = p by omega, hz, dc_nI (by omega), if_neg h0, h4 j (by omega)]
          · rw [if_neg (show ¬ (36 * p ≤ j ∧ j < 108) by omega)]
      have e2 : (fun q => if p + 1 ≤ q ∧ q < 3 then nI (dc (st q) - 1) else upd s' p (nI (z - 1)) q) = fun q => if p ≤ q ∧ q < 3 then nI (dc (st q) - 1) else s' q := funext fun q => by
        by_cases h : p + 1 ≤ q ∧ q < 3
        · rw [if_pos h, if_pos (by omega)]
        · rw [if_neg h]
          by_cases e : q = p
          · rw [e, up_at, if_pos (by omega), hz, dc_nI (by omega)]
          · rw [up_ne _ _ e, if_neg (by omega)]
      rw [e1, e2]
theorem p18 {N : Nat} (hN : N ≤ 100) (dn ri : Nat → Int32) (pu : Int32) (Fo : Nat → Int32) : ∀ (m fu x : Nat) (D st : Nat → Int32), x + m = N → m < fu → (∀ j, j < 108 → ∃ d : Nat, D j = nI d ∧ d ≤ 9999) → (∀ q, q < 3 → ∃ z : Nat, st q = nI z ∧ z ≤ 100) → fX5_pull_18 dn ri pu Fo (nI N) fu (nI x) D st = fX5_pull_47 dn ri pu Fo (nI N) (ND m st D) (NS m st) := by
  intro m
  induction m with
  | zero =>
    intro fu x D st h1 h2 h3 h4
    obtain ⟨fu, rfl⟩ := n_suc h2
    rw [fX5_pull_18, if_pos (by rw [q_le (by omega) (by omega)]; omega)]
    have e1 : ND 0 st D = D := funext fun j => by
      unfold ND
      by_cases h : j < 108
      · obtain ⟨d, hd, bd⟩ := h3 j h
        rw [if_pos h, Nat.zero_sub, hd, dc_nI (by omega)]; rfl
      · rw [if_neg h]
    have e2 : NS 0 st = st := funext fun q => by
      unfold NS
      by_cases h : q < 3
      · obtain ⟨z, hz, bz⟩ := h4 q h
        rw [if_pos h, hz, dc_nI (by omega)]; rfl
      · rw [if_neg h]
    rw [e1, e2]
  | succ m ih =>
    intro fu x D st h1 h2 h3 h4
    obtain ⟨fu, rfl⟩ := n_suc h2
    rw [fX5_pull_18, if_neg (by rw [q_le (by omega) (by omega)]; omega), l0, p25 (nI x) _ st D h4 3 100000 0 D st (by omega) (by omega) (fun _ _ => rfl) (fun _ _ => rfl) h3, nx, ih fu (x + 1) _ _ (by omega) (by omega)]
    · have e1 : ND m (fun q => if 0 ≤ q ∧ q < 3 then nI (dc (st q) - 1) else st q) (fun j => if 36 * 0 ≤ j ∧ j < 108 then (if dc (st (j / 36)) = 0 then nI (wr (dc (D j))) else D j) else D j) = ND (m + 1) st D := funext fun j => by
        unfold ND
        by_cases h : j < 108
        · obtain ⟨d, hd, bd⟩ := h3 j h
          obtain ⟨z, hz, bz⟩ := h4 (j / 36) (by omega)
          have hw := wr_le d
          rw [if_pos h, if_pos h]
          dsimp only
          rw [ if_pos (show 36 * 0 ≤ j ∧ j < 108 by omega), if_pos (show 0 ≤ j / 36 ∧ j / 36 < 3 by omega), hz, hd, dc_nI (show z < 2147483648 by omega), dc_nI (show d < 2147483648 by omega), dc_nI (show z - 1 < 2147483648 by omega)]
          by_cases h0 : z = 0
          · rw [if_pos h0, dc_nI (show wr d < 2147483648 by omega), h0]; rfl
          · rw [if_neg h0, dc_nI (show d < 2147483648 by omega), show m - (z - 1) = m + 1 - z by omega]
        · rw [if_neg h, if_neg h]
          exact if_neg (by omega)
      have e2 : NS m (fun q => if 0 ≤ q ∧ q < 3 then nI (dc (st q) - 1) else st q) = NS (m + 1) st := funext fun q => by
        unfold NS
        by_cases h : q < 3
        · obtain ⟨z, hz, bz⟩ := h4 q h
          rw [if_pos h, if_pos h]
          dsimp only
          rw [if_pos (show 0 ≤ q ∧ q < 3 by omega), hz, dc_nI (show z < 2147483648 by omega), dc_nI (show z - 1 < 2147483648 by omega)]
          exact congrArg nI (by omega)
        · rw [if_neg h, if_neg h]
          exact if_neg (by omega)
      rw [e1, e2]
    · intro j hj
      rw [if_pos (show 36 * 0 ≤ j ∧ j < 108 by omega)]
      obtain ⟨d, hd, bd⟩ := h3 j hj
      by_cases h0 : dc (st (j / 36)) = 0
      · rw [if_pos h0]; exact ⟨_, rfl, by rw [hd, dc_nI (by omega)]; exact Nat.le_trans (wr_le _) bd⟩
      · rw [if_neg h0]; exact ⟨d, hd, bd⟩
    · intro q hq
      rw [if_pos (show 0 ≤ q ∧ q < 3 by omega)]
      obtain ⟨z, hz, bz⟩ := h4 q hq
      exact ⟨_, rfl, by rw [hz, dc_nI (by omega)]; omega⟩
section OPS7
variable {K D L S : Nat → Int32} {sf : Nat → Option Nat} {T : Nat → Nat → Nat → Int32} {G De Li St Ke F Fo : Nat → Int32}
variable {dn ri st : Nat → Int32} {pu : Int32} {mdn mri mst : Nat → Int32} {mpu : Int32}
theorem col_lp (hP : DOk D De) (hR : InvR dn ri st pu mdn mri mst mpu) (p : Int32) (s : Nat → Int32) (pu' : Int32) : ∀ (m n n' i : Nat) (acc : Int32), i + m = 36 → m < n → m < n' → ∃ r, fX2_colourOfAll_4 dn ri D n acc (nI i) = some r ∧ fX5_pull_61 mdn mri pu' Fo p De s n' acc (nI i) = some (r, De, s, pu' + p, Fo) := by
  intro m
  induction m with
  | zero =>
    intro n n' i acc h1 h2 h3
    obtain ⟨n, rfl⟩ := n_suc h2
    obtain ⟨n', rfl⟩ := n_suc h3
    have hc : (36 : Int32) ≤ nI i := by rw [l36, q_le (by omega) (by omega)]; omega
    rw [fX2_colourOfAll_4, fX5_pull_61, if_pos hc, if_pos hc]
    exact ⟨_, rfl, rfl⟩
  | succ m ih =>
    intro n n' i acc h1 h2 h3
    obtain ⟨n, rfl⟩ := n_suc h2
    obtain ⟨n', rfl⟩ := n_suc h3
    have hc : ¬ (36 : Int32) ≤ nI i := by rw [l36, q_le (by omega) (by omega)]; omega
    obtain ⟨t, t1, t2⟩ := colAt hP hR (nI i)
    rw [fX2_colourOfAll_4, fX5_pull_61, if_neg hc, if_neg hc, t1, t2]
    simp only [Option.bind_some]
    rw [nx]
    exact ih n n' (i + 1) _ (by omega) (by omega) (by omega)
theorem op_pull (hP : InvP K D L S sf T G De Li St Ke) (hR : InvR dn ri st pu mdn mri mst mpu) (hF : InvF F Fo) (p : Int32) : ∃ u v, fX4_pull D dn ri st pu F p = some u ∧ fX5_pull De mdn mri mst mpu Fo p = some v ∧ v.1 = u.1 ∧ InvP K u.2.1 L S sf T G v.2.1 Li St Ke ∧ InvR dn ri u.2.2.1 u.2.2.2.1 mdn mri v.2.2.1 v.2.2.2.1 ∧ InvF u.2.2.2.2 v.2.2.2.2 := by
  unfold fX4_pull fX5_pull fX4_pull_11
  rw [in5, fd1, fs1]
  simp only [Option.bind_some]
  by_cases h1 : p < 1 ∨ 100 < p
  · rw [if_pos h1, if_pos c00]
    by_cases h2 : p < 1
    · rw [if_pos h2]; exact ⟨_, _, rfl, rfl, rfl, hP, hR, hF.fnd (by decide)⟩
    · rw [if_neg h2, if_neg (by rw [i32_nle]; exact h1.resolve_left h2)]; exact ⟨_, _, rfl, rfl, rfl, hP, hR, hF.fnd (by decide)⟩
  · rw [if_neg h1, if_neg c10, if_neg (fun h => h1 (Or.inl h)), if_pos (i32_nlt.mp (fun h => h1 (Or.inr h)))]
    have h3 : ¬ (p < 0 ∨ 100 < p) := fun h => h.elim (fun h => h1 (Or.inl (Int32.lt_trans h (by decide)))) (fun h => h1 (Or.inr h))
    obtain ⟨N, hN, rfl⟩ := rg_of (m := 100) (by omega) rfl h3
    have hd4 : ∀ j, j < 108 → ∃ d : Nat, D j = nI d ∧ d ≤ 9999 := fun j hj => (hP.dok j hj).2
    have hd5 : ∀ j, j < 108 → ∃ d : Nat, De j = nI d ∧ d ≤ 9999 := fun j hj => by rw [(hP.dok j hj).1]; exact hd4 j hj
    have hs4 : ∀ q, q < 3 → ∃ z : Nat, st q = nI z ∧ z ≤ 100 := fun q hq => (hR.2 q hq).2.2.2
    have hs5 : ∀ q, q < 3 → ∃ z : Nat, mst q = nI z ∧ z ≤ 100 := fun q hq => by rw [(hR.2 q hq).2.2.1]; exact hs4 q hq
    rw [pal4 hN pu st D hd4 hs4, l0, p18 hN mdn mri mpu Fo N 100000 0 De mst (by omega) (by omega) hd5 hs5]
    simp only [Option.bind_some]
    have hP' : InvP K (ND N st D) L S sf T G (ND N mst De) Li St Ke := by
      refine hP.main (fun i hi => ?_) (fun i h1 h2 => ?_)
      · rw [Nat.zero_add]
        obtain ⟨⟨kn, dn, ln, sn, hk, hd, hl, hs, b1, b2, b3, b4, b5⟩, e1, e2, e3, e4⟩ := hP.at hi
        unfold ND
        rw [if_pos hi, if_pos hi, e2, (hR.2 (i / 36) (by omega)).2.2.1, hd, dc_nI (by omega)]
        exact ⟨⟨kn, _, ln, sn, hk, rfl, hl, hs, b1, Nat.le_trans (wn_le _ _) b2, b3, b4, b5⟩, e1, rfl, e3, e4⟩
      · refine ⟨rfl, ?_, rfl, rfl⟩
        unfold ND
        rw [if_neg (by omega)]
    have hR' : InvR dn ri (NS N st) (pu + nI N) mdn mri (NS N mst) (mpu + nI N) := ⟨by rw [hR.1], fun i hi => by
      obtain ⟨a, b, c, z, hz, bz⟩ := hR.2 i hi
      refine ⟨a, b, ?_, ?_⟩
      · unfold NS; rw [if_pos hi, if_pos hi, c]
      · unfold NS; rw [if_pos hi, hz, dc_nI (by omega)]; exact ⟨_, rfl, by omega⟩⟩
    unfold fX2_colourOfAll fX5_pull_47
    obtain ⟨r, r1, r2⟩ := col_lp (Fo := Fo) hP'.dok hR (nI N) (NS N mst) mpu 36 100000 100000 0 0 (by omega) (by omega) (by omega)
    rw [← l0] at *
    rw [show (fX2_colourOfAll_4 dn ri (ND N st D) 100000 0 0) = some r from r1, show fX5_pull_61 mdn mri mpu Fo (nI N) (ND N mst De) (NS N mst) 100000 0 0 = _ from r2]
    exact ⟨_, _, rfl, rfl, rfl, hP', hR', hF⟩
end OPS7
