/-! plans: what the greedy counts are -/
def elp (a b : Nat → Nat) (q : Nat) : Nat → Nat → Nat → Nat
  | 0, _, acc => acc
  | m + 1, i, acc => elp a b q m (i + 1) (if a i < q then acc else if acc ≤ b i then acc else b i)
def El (a b : Nat → Nat) (n q : Nat) : Nat := elp a b q n 0 201
def Spa (a b : Nat → Nat) (n : Nat) : Prop := ∀ j, j < n → a j ≤ b j ∧ b j ≤ 200
theorem elp_ok (a b : Nat → Nat) (q : Nat) : ∀ (m i acc : Nat), (elp a b q m i acc ≤ acc ∧ ∀ j, i ≤ j → j < i + m → q ≤ a j → elp a b q m i acc ≤ b j) ∧ (elp a b q m i acc = acc ∨ ∃ j, i ≤ j ∧ j < i + m ∧ q ≤ a j ∧ elp a b q m i acc = b j)
  | 0, _, _ => ⟨⟨Nat.le_refl _, fun j h1 h2 => by omega⟩, Or.inl rfl⟩
  | m + 1, i, acc => by
    rw [elp]
    obtain ⟨⟨h1, h2⟩, h3⟩ := elp_ok a b q m (i + 1) (if a i < q then acc else if acc ≤ b i then acc else b i)
    have h4 : (if a i < q then acc else if acc ≤ b i then acc else b i) ≤ acc ∧ (q ≤ a i → (if a i < q then acc else if acc ≤ b i then acc else b i) ≤ b i) ∧ ((if a i < q then acc else if acc ≤ b i then acc else b i) = acc ∨ (q ≤ a i ∧ (if a i < q then acc else if acc ≤ b i then acc else b i) = b i)) := by
      by_cases h : a i < q
      · rw [if_pos h]; exact ⟨Nat.le_refl _, fun h9 => by omega, Or.inl rfl⟩
      · rw [if_neg h]
        by_cases h5 : acc ≤ b i
        · rw [if_pos h5]; exact ⟨Nat.le_refl _, fun _ => h5, Or.inl rfl⟩
        · rw [if_neg h5]; exact ⟨by omega, fun _ => Nat.le_refl _, Or.inr ⟨by omega, rfl⟩⟩
    generalize (if a i < q then acc else if acc ≤ b i then acc else b i) = acc' at *
    obtain ⟨g1, g2, g3⟩ := h4
    refine ⟨⟨Nat.le_trans h1 g1, fun j h5 h6 h7 => ?_⟩, ?_⟩
    · by_cases e : j = i
      · subst e; exact Nat.le_trans h1 (g2 h7)
      · exact h2 j (by omega) (by omega) h7
    · rcases h3 with h3 | ⟨j, h5, h6, h7, h8⟩
      · rcases g3 with g3 | ⟨g3, g4⟩
        · exact Or.inl (h3.trans g3)
        · exact Or.inr ⟨i, Nat.le_refl _, by omega, g3, h3.trans g4⟩
      · exact Or.inr ⟨j, by omega, by omega, h7, h8⟩
section PLAN
variable {a b : Nat → Nat} {n : Nat}
theorem El_le (q : Nat) : El a b n q ≤ 201 := (elp_ok a b q n 0 201).1.1
theorem El_b {q j : Nat} (hj : j < n) (h : q ≤ a j) : El a b n q ≤ b j := (elp_ok a b q n 0 201).1.2 j (by omega) (by omega) h
theorem El_ex (a b : Nat → Nat) (n q : Nat) : El a b n q = 201 ∨ ∃ j, j < n ∧ q ≤ a j ∧ El a b n q = b j := (elp_ok a b q n 0 201).2.imp id (fun ⟨j, _, h2, h3, h4⟩ => ⟨j, by omega, h3, h4⟩)
theorem El_ge (hS : Spa a b n) {q : Nat} (h : ¬ El a b n q = 201) : q ≤ El a b n q ∧ El a b n q ≤ 200 := by
  rcases El_ex a b n q with h1 | ⟨j, h1, h2, h3⟩
  · exact absurd h1 h
  · have := hS j h1; omega
theorem El_mono {q q' : Nat} (h : q ≤ q') : El a b n q ≤ El a b n q' := by
  rcases El_ex a b n q' with h1 | ⟨j, h1, h2, h3⟩
  · rw [h1]; exact El_le q
  · rw [h3]; exact El_b h1 (by omega)
theorem El_same {q : Nat} (h : ∀ j, j < n → a j ≠ q) : El a b n (q + 1) = El a b n q := by
  refine Nat.le_antisymm ?_ (El_mono (by omega))
  rcases El_ex a b n q with h1 | ⟨j, h1, h2, h3⟩
  · rw [h1]; exact El_le _
  · rw [h3]
    have := h j h1
    exact El_b h1 (by omega)
theorem El_none (hS : Spa a b n) {q : Nat} (h : 201 ≤ q) : El a b n q = 201 := by
  rcases El_ex a b n q with h1 | ⟨j, h1, h2, h3⟩
  · exact h1
  · have := hS j h1; omega
def gr (a b : Nat → Nat) (n : Nat) : Nat → Nat → Nat
  | 0, _ => 0
  | f + 1, q => if El a b n q = 201 then 0 else gr a b n f (El a b n q + 1) + 1
theorem gr_s (a b : Nat → Nat) (n f q : Nat) : gr a b n (f + 1) q = if El a b n q = 201 then 0 else gr a b n f (El a b n q + 1) + 1 := rfl
theorem gr_st (hS : Spa a b n) : ∀ f q, 201 ≤ f + q → gr a b n (f + 1) q = gr a b n f q
  | 0, q, h => by rw [gr_s, if_pos (El_none hS (by omega))]; rfl
  | f + 1, q, h => by
    rw [gr_s a b n (f + 1) q, gr_s a b n f q]
    by_cases h1 : El a b n q = 201
    · rw [if_pos h1, if_pos h1]
    · rw [if_neg h1, if_neg h1, gr_st hS f _ (by have := El_ge hS h1; omega)]
def gq (a b : Nat → Nat) (n q : Nat) : Nat := gr a b n 201 q
theorem gq_un (hS : Spa a b n) (q : Nat) : gq a b n q = if El a b n q = 201 then 0 else gq a b n (El a b n q + 1) + 1 := by
  unfold gq
  rw [← gr_st hS 201 q (by omega), gr_s]
theorem gq_same (hS : Spa a b n) {q : Nat} (h : ∀ j, j < n → a j ≠ q) : gq a b n (q + 1) = gq a b n q := by
  rw [gq_un hS (q + 1), gq_un hS q, El_same h]
theorem gq_anti (hS : Spa a b n) : ∀ (k q q' : Nat), q ≤ q' → 201 ≤ k + q' → gq a b n q' ≤ gq a b n q := by
  intro k
  induction k with
  | zero =>
    intro q q' h1 h2
    rw [gq_un hS q', if_pos (El_none hS (by omega))]
    exact Nat.zero_le _
  | succ k ih =>
    intro q q' h1 h2
    rw [gq_un hS q', gq_un hS q]
    by_cases h3 : El a b n q' = 201
    · rw [if_pos h3]; exact Nat.zero_le _
    · have h4 := El_ge hS h3
      have h5 : El a b n q ≤ El a b n q' := El_mono h1
      rw [if_neg h3, if_neg (by omega)]
      exact Nat.succ_le_succ (ih _ _ (by omega) (by omega))
def cn (a : Nat → Nat) (q : Nat) : Nat → Nat
  | 0 => 0
  | m + 1 => (if q ≤ a m then 1 else 0) + cn a q m
theorem cn_le (a : Nat → Nat) (q : Nat) : ∀ m, cn a q m ≤ m
  | 0 => Nat.le_refl _
  | m + 1 => by rw [cn]; have := cn_le a q m; split <;> omega
theorem cn_mo (a : Nat → Nat) {q q' : Nat} (h : q ≤ q') : ∀ m, cn a q' m ≤ cn a q m
  | 0 => Nat.le_refl _
  | m + 1 => by rw [cn, cn]; have := cn_mo a h m; split <;> split <;> omega
theorem cn_lt (a : Nat → Nat) {q q' j : Nat} (h : q ≤ q') (h1 : q ≤ a j) (h2 : a j < q') : ∀ m, j < m → cn a q' m + 1 ≤ cn a q m
  | 0, hj => by omega
  | m + 1, hj => by
    rw [cn, cn]
    by_cases e : j = m
    · subst e
      have := cn_mo a h j
      rw [if_neg (by omega), if_pos h1]
      omega
    · have := cn_lt a h h1 h2 m (by omega)
      split <;> split <;> omega
theorem gq_cn (hS : Spa a b n) : ∀ (k q : Nat), 201 ≤ k + q → gq a b n q ≤ cn a q n := by
  intro k
  induction k with
  | zero => intro q h; rw [gq_un hS, if_pos (El_none hS (by omega))]; exact Nat.zero_le _
  | succ k ih =>
    intro q h
    rw [gq_un hS]
    by_cases h3 : El a b n q = 201
    · rw [if_pos h3]; exact Nat.zero_le _
    · have h4 := El_ge hS h3
      rw [if_neg h3]
      rcases El_ex a b n q with h5 | ⟨j, h5, h6, h7⟩
      · exact absurd h5 h3
      · have h8 := ih (El a b n q + 1) (by omega)
        have h9 := cn_lt a (q := q) (q' := El a b n q + 1) (j := j) (by omega) h6 (by have := hS j h5; omega) n h5
        omega
theorem gq_n (hS : Spa a b n) (q : Nat) : gq a b n q ≤ n := Nat.le_trans (gq_cn hS 201 q (by omega)) (cn_le a q n)
/-- what the two sides' rows of spans say -/
def Row (fi la : Nat → Int32) (a b : Nat → Nat) (n : Nat) : Prop := ∀ j, j < n → fi j = nI (a j) ∧ la j = nI (b j)
theorem pr_s (m : Nat) : nI m = nI (m + 1) - 1 := by rw [l1, q_sub (by omega)]; rfl
variable {fi la : Nat → Int32}
theorem eb4 (hn : n ≤ 8) (hS : Spa a b n) (hR : Row fi la a b n) {q : Nat} (hq : q ≤ 1000) : ∀ (m fu i acc : Nat), i + m = n → m < fu → acc ≤ 201 → fX3_earliestLastBehind_6 fi la (nI n) (nI q - 1) fu (nI acc) (nI i) = some (nI (elp a b q m i acc)) := by
  intro m
  induction m with
  | zero =>
    intro fu i acc h1 h2 h3
    obtain ⟨fu, rfl⟩ := n_suc h2
    rw [fX3_earliestLastBehind_6, if_pos (by rw [q_le (by omega) (by omega)]; omega)]
    rfl
  | succ m ih =>
    intro fu i acc h1 h2 h3
    obtain ⟨fu, rfl⟩ := n_suc h2
    obtain ⟨r1, r2⟩ := hR i (by omega)
    obtain ⟨s1, s2⟩ := hS i (by omega)
    rw [fX3_earliestLastBehind_6, if_neg (by rw [q_le (by omega) (by omega)]; omega), if_pos (show inb (nI i) 8 = true by rw [q_inb (by omega)]; omega), q_cl (by omega), r1, r2, elp]
    simp (disch := omega) only [le_m1, q_le]
    unfold fX3_earliestLastBehind_41
    rw [nx]
    by_cases h : a i < q
    · rw [if_pos h, if_pos h]; exact ih fu (i + 1) acc (by omega) (by omega) h3
    · rw [if_neg h, if_neg h]
      by_cases h5 : acc ≤ b i
      · rw [if_pos h5, if_pos h5]; exact ih fu (i + 1) acc (by omega) (by omega) h3
      · rw [if_neg h5, if_neg h5]; exact ih fu (i + 1) (b i) (by omega) (by omega) (by omega)
theorem ebl4 (hn : n ≤ 8) (hS : Spa a b n) (hR : Row fi la a b n) {q : Nat} (hq : q ≤ 1000) : fX3_earliestLastBehind fi la (nI n) (nI q - 1) = some (nI (El a b n q)) := eb4 hn hS hR hq n 100000 0 201 (by omega) (by omega) (by omega)
theorem fb4 (hn : n ≤ 8) (hS : Spa a b n) (hR : Row fi la a b n) : ∀ (m fu i k q : Nat), i + m = n → gq a b n q ≤ m → m < fu → fX3_fewestBehind_11 fi la (nI n) fu (nI k) (nI (El a b n q)) (nI i) = some (nI (k + gq a b n q)) := by
  intro m
  induction m with
  | zero =>
    intro fu i k q h1 h2 h3
    obtain ⟨fu, rfl⟩ := n_suc h3
    rw [fX3_fewestBehind_11, if_pos (by rw [q_le (by omega) (by omega)]; omega), show gq a b n q = 0 by omega]
    rfl
  | succ m ih =>
    intro fu i k q h1 h2 h3
    obtain ⟨fu, rfl⟩ := n_suc h3
    have hE := El_le (a := a) (b := b) (n := n) q
    rw [fX3_fewestBehind_11, if_neg (by rw [q_le (by omega) (by omega)]; omega), l201]
    simp (disch := omega) only [q_le]
    rw [gq_un hS] at h2 ⊢
    by_cases h4 : El a b n q = 201
    · rw [if_pos h4, if_pos (by omega)]; rfl
    · rw [if_neg h4] at h2 ⊢
      rw [if_neg (by omega), pr_s (El a b n q), ebl4 hn hS hR (by omega)]
      simp only [Option.bind_some]
      rw [nx, nx, ih fu (i + 1) (k + 1) _ (by omega) (by omega) (by omega)]
      exact congrArg (fun z => some (nI z)) (by omega)
theorem fbl4 (hn : n ≤ 8) (hS : Spa a b n) (hR : Row fi la a b n) {q : Nat} (hq : q ≤ 1000) : fX3_fewestBehind fi la (nI n) (nI q - 1) = some (nI (gq a b n q)) := by
  unfold fX3_fewestBehind
  rw [ebl4 hn hS hR hq]
  simp only [Option.bind_some]
  rw [l0, fb4 hn hS hR n 100000 0 0 q (by omega) (gq_n hS q) (by omega), Nat.zero_add]
theorem lm4 (hn : n ≤ 8) (hS : Spa a b n) (hR : Row fi la a b n) {q left : Nat} (hq : q ≤ 1000) (hl : left ≤ 8) : ∀ (m fu i x : Nat), i + m = n → m < fu → x ≤ 201 → ∃ x', fX3_leastMinuteBehind_9 fi la (nI n) (nI q - 1) (nI left) fu (nI x) (nI i) = some (nI x') ∧ x' ≤ x ∧ (x' = x ∨ ∃ j, j < n ∧ q ≤ a j ∧ x' = a j ∧ gq a b n (a j + 1) < left) ∧ ∀ j, i ≤ j → j < n → q ≤ a j → gq a b n (a j + 1) < left → x' ≤ a j := by
  intro m
  induction m with
  | zero =>
    intro fu i x h1 h2 h3
    obtain ⟨fu, rfl⟩ := n_suc h2
    rw [fX3_leastMinuteBehind_9, if_pos (by rw [q_le (by omega) (by omega)]; omega)]
    exact ⟨x, rfl, Nat.le_refl _, Or.inl rfl, fun j h4 h5 => by omega⟩
  | succ m ih =>
    intro fu i x h1 h2 h3
    obtain ⟨fu, rfl⟩ := n_suc h2
    obtain ⟨r1, r2⟩ := hR i (by omega)
    obtain ⟨s1, s2⟩ := hS i (by omega)
    have hg := gq_n hS (a i + 1)
    rw [fX3_leastMinuteBehind_9, if_neg (by rw [q_le (by omega) (by omega)]; omega), if_pos (show inb (nI i) 8 = true by rw [q_inb (by omega)]; omega), q_cl (by omega), r1]
    unfold fX3_leastMinuteBehind_52
    rw [nx]
    have ef : fX3_fewestBehind fi la (nI n) (nI (a i)) = some (nI (gq a b n (a i + 1))) := by rw [pr_s (a i)]; exact fbl4 hn hS hR (by omega)
    rw [ef]
    simp (disch := omega) only [Option.bind_some, le_m1, q_le]
    by_cases h : a i < q
    · rw [if_pos h]
      obtain ⟨x', e1, e2, e3, e4⟩ := ih fu (i + 1) x (by omega) (by omega) h3
      refine ⟨x', e1, e2, e3, fun j g1 g2 g3 g4 => ?_⟩
      by_cases e : j = i
      · subst e; omega
      · exact e4 j (by omega) g2 g3 g4
    · rw [if_neg h]
      by_cases h5 : x ≤ a i
      · rw [if_pos h5]
        obtain ⟨x', e1, e2, e3, e4⟩ := ih fu (i + 1) x (by omega) (by omega) h3
        refine ⟨x', e1, e2, e3, fun j g1 g2 g3 g4 => ?_⟩
        by_cases e : j = i
        · subst e; omega
        · exact e4 j (by omega) g2 g3 g4
      · rw [if_neg h5]
        by_cases h6 : left ≤ gq a b n (a i + 1)
        · rw [if_pos h6]
          obtain ⟨x', e1, e2, e3, e4⟩ := ih fu (i + 1) x (by omega) (by omega) h3
          refine ⟨x', e1, e2, e3, fun j g1 g2 g3 g4 => ?_⟩
          by_cases e : j = i
          · subst e; omega
          · exact e4 j (by omega) g2 g3 g4
        · rw [if_neg h6]
          obtain ⟨x', e1, e2, e3, e4⟩ := ih fu (i + 1) (a i) (by omega) (by omega) (by omega)
          refine ⟨x', e1, by omega, ?_, fun j g1 g2 g3 g4 => ?_⟩
          · rcases e3 with e3 | e3
            · exact Or.inr ⟨i, by omega, by omega, e3, by omega⟩
            · exact Or.inr e3
          · by_cases e : j = i
            · subst e; exact e2
            · exact e4 j (by omega) g2 g3 g4
/-- the next minute: the least that can be -/
theorem next (hn : n ≤ 8) (hS : Spa a b n) (hR : Row fi la a b n) {q left : Nat} (hq : q ≤ 1000) (hl : left ≤ 8) (h0 : 0 < left) (hg : gq a b n q = left) : ∃ x, fX3_leastMinuteBehind fi la (nI n) (nI q - 1) (nI left) = some (nI x) ∧ q ≤ x ∧ x ≤ 200 ∧ x ≤ El a b n q ∧ gq a b n (x + 1) = left - 1 ∧ ∀ y, q ≤ y → y < x → ¬ gq a b n (y + 1) < left := by
  have hE : ¬ El a b n q = 201 := fun h => by rw [gq_un hS, if_pos h] at hg; omega
  have hE2 := El_ge hS hE
  have hgE : gq a b n (El a b n q + 1) + 1 = left := by rw [gq_un hS, if_neg hE] at hg; exact hg
  unfold fX3_leastMinuteBehind
  rw [ebl4 hn hS hR hq]
  simp only [Option.bind_some]
  obtain ⟨x, e1, e2, e3, e4⟩ := lm4 hn hS hR hq hl n 100000 0 (El a b n q) (by omega) (by omega) (El_le q)
  have g1 : q ≤ x ∧ gq a b n (x + 1) < left := by
    rcases e3 with e3 | ⟨j, f1, f2, f3, f4⟩
    · rw [e3]; exact ⟨hE2.1, by omega⟩
    · rw [f3]; exact ⟨f2, f4⟩
  have g2 : gq a b n (El a b n q + 1) ≤ gq a b n (x + 1) := gq_anti hS 201 _ _ (by omega) (by omega)
  refine ⟨x, e1, g1.1, by omega, e2, by omega, ?_⟩
  intro y
  induction y with
  | zero =>
    intro h1 h2 h3
    by_cases h4 : ∃ j, j < n ∧ a j = 0
    · obtain ⟨j, f1, f2⟩ := h4
      have := e4 j (by omega) f1 (by omega) (by rw [f2]; exact h3)
      omega
    · rw [gq_same hS (fun j f1 f2 => h4 ⟨j, f1, f2⟩), show (0 : Nat) = q by omega, hg] at h3
      omega
  | succ y ih =>
    intro h1 h2 h3
    by_cases h4 : ∃ j, j < n ∧ a j = y + 1
    · obtain ⟨j, f1, f2⟩ := h4
      have := e4 j (by omega) f1 (by omega) (by rw [f2]; exact h3)
      omega
    · rw [gq_same hS (fun j f1 f2 => h4 ⟨j, f1, f2⟩)] at h3
      by_cases h5 : q = y + 1
      · rw [← h5, hg] at h3; omega
      · exact ih (by omega) (by omega) h3
/-! the reference's side -/
def enc (x : Nat) : Int32 := if x = 201 then -1 else nI x
variable {o : Nat → Int32}
theorem f19 (hn : n ≤ 8) (hS : Spa a b n) (hR : Row fi la a b n) {q : Nat} (hq : q ≤ 1000) (ho : ∀ j, j < n → ¬ o j = 0 → a j < q) (x3 : Int32) (k8 : Int32 → Int32 → Int32 → Option Int32) : ∀ (m fu i acc : Nat), i + m = n → m < fu → acc ≤ 201 → fX5_fewest_19 (nI n) fi la o x3 (nI q - 1) k8 fu (enc acc) (nI i) = fX5_fewest_80 x3 (nI q - 1) k8 (enc (elp a b q m i acc)) := by
  intro m
  induction m with
  | zero =>
    intro fu i acc h1 h2 h3
    obtain ⟨fu, rfl⟩ := n_suc h2
    rw [fX5_fewest_19, if_pos (by rw [q_le (by omega) (by omega)]; omega)]
    rfl
  | succ m ih =>
    intro fu i acc h1 h2 h3
    obtain ⟨fu, rfl⟩ := n_suc h2
    obtain ⟨r1, r2⟩ := hR i (by omega)
    obtain ⟨s1, s2⟩ := hS i (by omega)
    rw [fX5_fewest_19, if_neg (by rw [q_le (by omega) (by omega)]; omega), if_pos (show inb (nI i) 8 = true by rw [q_inb (by omega)]; omega), q_cl (by omega), r1, r2, elp]
    simp (disch := omega) only [le_m1]
    unfold fX5_fewest_65 fX5_fewest_74
    rw [q_cl (by omega), r2, nx]
    by_cases hz : o i = 0
    · rw [if_pos hz]
      by_cases h : a i < q
      · rw [if_pos h, if_pos h]; exact ih fu (i + 1) acc (by omega) (by omega) h3
      · rw [if_neg h, if_neg h]
        have hb := ih fu (i + 1) (b i) (by omega) (by omega) (by omega)
        rw [show enc (b i) = nI (b i) from if_neg (by omega)] at hb
        by_cases h4 : acc = 201
        · rw [if_pos (show enc acc = -1 from if_pos h4), if_neg (by omega)]; exact hb
        · have e : enc acc = nI acc := if_neg h4
          rw [e, if_neg (nI_nm1 (by omega))]
          simp (disch := omega) only [q_le]
          by_cases h5 : acc ≤ b i
          · rw [if_pos h5, if_pos h5, ← e]; exact ih fu (i + 1) acc (by omega) (by omega) h3
          · rw [if_neg h5, if_neg h5]; exact hb
    · rw [if_neg hz, if_pos (ho i (by omega) hz)]
      exact ih fu (i + 1) acc (by omega) (by omega) h3
theorem f8 (hn : n ≤ 8) (hS : Spa a b n) (hR : Row fi la a b n) : ∀ (f fu k q : Nat), q ≤ 1000 → (∀ j, j < n → ¬ o j = 0 → a j < q) → gq a b n q ≤ f → f + 1 < fu → fX5_fewest_8 (nI n) fi la o fu (nI k) (nI q - 1) 1 = some (nI (k + gq a b n q)) := by
  intro f
  induction f with
  | zero =>
    intro fu k q hq ho h1 h2
    obtain ⟨fu, rfl⟩ := n_suc h2
    obtain ⟨fu, rfl⟩ := n_suc (show 0 < fu by omega)
    have h0 : gq a b n q = 0 := by omega
    have hE : El a b n q = 201 := by
      refine Decidable.byContradiction (fun h => ?_)
      rw [gq_un hS, if_neg h] at h0
      omega
    rw [fX5_fewest_8, if_neg c10, show (-1 : Int32) = enc 201 from rfl, l0, f19 hn hS hR hq ho _ _ n 100000 0 201 (by omega) (by omega) (by omega), show elp a b q n 0 201 = El a b n q from rfl, hE]
    unfold fX5_fewest_80 fX5_fewest_91 fX5_fewest_105 fX5_fewest_118
    rw [if_pos (show enc 201 = -1 from rfl), if_pos c00, if_pos c00, fX5_fewest_8, if_pos c00, h0, l0, nI_add]
  | succ f ih =>
    intro fu k q hq ho h1 h2
    obtain ⟨fu, rfl⟩ := n_suc h2
    by_cases hE : El a b n q = 201
    · obtain ⟨fu, rfl⟩ := n_suc (show 0 < fu by omega)
      have h0 : gq a b n q = 0 := by rw [gq_un hS, if_pos hE]
      rw [fX5_fewest_8, if_neg c10, show (-1 : Int32) = enc 201 from rfl, l0, f19 hn hS hR hq ho _ _ n 100000 0 201 (by omega) (by omega) (by omega), show elp a b q n 0 201 = El a b n q from rfl, hE]
      unfold fX5_fewest_80 fX5_fewest_91 fX5_fewest_105 fX5_fewest_118
      rw [if_pos (show enc 201 = -1 from rfl), if_pos c00, if_pos c00, fX5_fewest_8, if_pos c00, h0, l0, nI_add]
    · have hE2 := El_ge hS hE
      have hg : gq a b n q = gq a b n (El a b n q + 1) + 1 := by rw [gq_un hS, if_neg hE]
      rw [fX5_fewest_8, if_neg c10, show (-1 : Int32) = enc 201 from rfl, l0, f19 hn hS hR hq ho _ _ n 100000 0 201 (by omega) (by omega) (by omega), show elp a b q n 0 201 = El a b n q from rfl, show enc (El a b n q) = nI (El a b n q) from if_neg hE]
      unfold fX5_fewest_80 fX5_fewest_91 fX5_fewest_105 fX5_fewest_118
      rw [if_neg (show ¬ nI (El a b n q) = -1 from nI_nm1 (by omega)), if_neg c10, if_neg c10, nx, pr_s (El a b n q), ih fu (k + 1) (El a b n q + 1) (by omega) (fun j h3 h4 => by have := ho j h3 h4; omega) (by omega) (by omega), hg]
      exact congrArg (fun z => some (nI z)) (by omega)
theorem few5 (hn : n ≤ 8) (hS : Spa a b n) (hR : Row fi la a b n) {q : Nat} (hq : q ≤ 1000) (ho : ∀ j, j < n → ¬ o j = 0 → a j < q) : fX5_fewest (nI n) fi la o (nI q - 1) = some (nI (gq a b n q)) := by
  have := f8 hn hS hR (o := o) 8 100000 0 q hq ho (Nat.le_trans (gq_n hS q) hn) (by omega)
  rw [Nat.zero_add] at this
  exact this
theorem cb2 (hn : n ≤ 8) (hS : Spa a b n) (hR : Row fi la a b n) {q m : Nat} (hm : q ≤ m) (hE : m ≤ El a b n q) {me : Nat → Int32} (hM : ∀ j, j < n → (me j = 0 ↔ q ≤ a j)) (p2 : Int32) : ∀ (k fu i : Nat) (tr : Nat → Int32), i + k = n → k < fu → (∀ j, j < i → ¬ tr j = 0 → a j < m + 1) → ∃ tr', fX5_canBe_2 (nI n) fi la me (nI m) p2 fu (nI i) tr = fX5_canBe_76 (nI n) fi la (nI m) p2 tr' ∧ ∀ j, j < n → ¬ tr' j = 0 → a j < m + 1 := by
  have hE9 := El_le (a := a) (b := b) (n := n) q
  intro k
  induction k with
  | zero =>
    intro fu i tr h1 h2 h3
    obtain ⟨fu, rfl⟩ := n_suc h2
    rw [fX5_canBe_2, if_pos (by rw [q_le (by omega) (by omega)]; omega)]
    exact ⟨tr, rfl, fun j hj => h3 j (by omega)⟩
  | succ k ih =>
    intro fu i tr h1 h2 h3
    obtain ⟨fu, rfl⟩ := n_suc h2
    obtain ⟨r1, r2⟩ := hR i (by omega)
    obtain ⟨s1, s2⟩ := hS i (by omega)
    have hMi := hM i (by omega)
    rw [fX5_canBe_2, if_neg (by rw [q_le (by omega) (by omega)]; omega), if_pos (show inb (nI i) 8 = true by rw [q_inb (by omega)]; omega), q_cl (by omega), r1, r2, in5]
    unfold fX5_canBe_43 fX5_canBe_48 fX5_canBe_70
    rw [q_cl (by omega), up_at, up_at, r2, q_and0, q_and1, nx]
    simp (disch := omega) only [Option.bind_some, q_lt, q_le]
    have ext : ∀ x : Int32, (¬ x = 0 → a i < m + 1) → ∀ j, j < i + 1 → ¬ upd tr i x j = 0 → a j < m + 1 := fun x hx j h4 h5 => by
      by_cases e : j = i
      · rw [e, up_at] at h5; rw [e]; exact hx h5
      · rw [up_ne _ _ e] at h5; exact h3 j (by omega) h5
    have one : (if nI 1 = 0 then if m ≤ b i then fX5_canBe_2 (nI n) fi la me (nI m) p2 fu (nI (i + 1)) (upd tr i (nI 1)) else some (0, upd tr i (nI 1)) else fX5_canBe_2 (nI n) fi la me (nI m) p2 fu (nI (i + 1)) (upd tr i (nI 1))) = fX5_canBe_2 (nI n) fi la me (nI m) p2 fu (nI (i + 1)) (upd tr i (nI 1)) := if_neg (by decide)
    rw [one]
    by_cases hz : me i = 0
    · have hb := El_b (b := b) (show i < n by omega) (hMi.mp hz)
      rw [if_pos hz]
      by_cases h : m < a i ∨ b i < m
      · rw [if_pos h, if_pos c00, if_pos (show nI 0 = 0 from rfl), if_pos (by omega)]
        exact ih fu (i + 1) _ (by omega) (by omega) (ext _ (fun h9 => absurd rfl h9))
      · rw [if_neg h, if_neg c10]
        exact ih fu (i + 1) _ (by omega) (by omega) (ext _ (fun _ => by omega))
    · rw [if_neg hz]
      have : ¬ q ≤ a i := fun h9 => hz (hMi.mpr h9)
      exact ih fu (i + 1) _ (by omega) (by omega) (ext _ (fun _ => by omega))
theorem canb (hn : n ≤ 8) (hS : Spa a b n) (hR : Row fi la a b n) {q m p : Nat} (hm : q ≤ m) (hE : m ≤ El a b n q) (hp : p ≤ 8) {me : Nat → Int32} (hM : ∀ j, j < n → (me j = 0 ↔ q ≤ a j)) (tr : Nat → Int32) : ∃ tr', fX5_canBe (nI n) fi la me tr (nI m) (nI p) = some ((if p < gq a b n (m + 1) then 0 else 1), tr') := by
  have hE9 := El_le (a := a) (b := b) (n := n) q
  have hg := gq_n hS (m + 1)
  obtain ⟨tr', h1, h2⟩ := cb2 hn hS hR hm hE hM (nI p) n 100000 0 tr (by omega) (by omega) (fun j hj => by omega)
  refine ⟨tr', ?_⟩
  unfold fX5_canBe
  rw [l0, h1]
  unfold fX5_canBe_76
  rw [pr_s m, few5 hn hS hR (by omega) h2]
  simp (disch := omega) only [Option.bind_some, q_lt]
  by_cases h : p < gq a b n (m + 1)
  · rw [if_pos h, if_pos h]; rfl
  · rw [if_neg h, if_neg h]
end PLAN
