/-! bathing: minute by minute, and at once -/
def mn (x : Nat) : Nat := if x < 9999 then x else 9999
theorem mn_le (x : Nat) : mn x ≤ 9999 := by unfold mn; split <;> omega
theorem mn_mn (x y : Nat) : mn (mn x + y) = mn (x + y) := by
  unfold mn
  by_cases h : x < 9999
  · rw [if_pos h]
  · rw [if_neg h, if_neg (by omega), if_neg (by omega)]
theorem mn_of {x : Nat} (h : x ≤ 9999) : mn x = x := by unfold mn; split <;> omega
def mb (b k : Nat) : Nat → Nat → Nat → Nat × Nat
  | 0, d, l => (d, l)
  | n + 1, d, l => mb b k n (mn (d + tms k l * b)) (l - 1)
def bm (k l n : Nat) : Nat := if k = 2 then (if l < n then l else n) else n
def clD (b k n d l : Nat) : Nat := mn (d + tms k l * b * bm k l n)
def clL (k n l : Nat) : Nat := if k = 2 then l - bm k l n else l
theorem tms_le (k l : Nat) : tms k l ≤ 3 := by unfold tms; split <;> (try split) <;> (try split) <;> omega
theorem mb_cl (b k : Nat) : ∀ (n d l : Nat), d ≤ 9999 → (k ≠ 2 → l = 0) → mb b k n d l = (clD b k n d l, clL k n l)
  | 0, d, l, hd, hl => by
    have e : bm k l 0 = 0 := by unfold bm; split <;> (try split) <;> omega
    unfold mb clD clL
    rw [e, Nat.mul_zero, Nat.add_zero, mn_of hd]
    by_cases h : k = 2
    · rw [if_pos h]; rfl
    · rw [if_neg h]
  | n + 1, d, l, hd, hl => by
    rw [mb, mb_cl b k n _ (l - 1) (mn_le _) (fun h => by rw [hl h])]
    unfold clD clL
    rw [mn_mn]
    by_cases hk : k = 2
    · subst hk
      rw [if_pos rfl, if_pos rfl]
      by_cases h0 : l = 0
      · subst h0
        have t0 : tms 2 0 = 0 := rfl
        have e1 : bm 2 0 (n + 1) = 0 := rfl
        simp only [Nat.zero_sub, t0, Nat.zero_mul, Nat.add_zero]
      · have t1 : tms 2 l = 3 := by unfold tms; simp [h0]
        have e2 : tms 2 (l - 1) * b * bm 2 (l - 1) n = 3 * b * bm 2 (l - 1) n := by
          by_cases h1 : l - 1 = 0
          · have : bm 2 (l - 1) n = 0 := by unfold bm; rw [if_pos rfl, h1]; split <;> omega
            rw [this, Nat.mul_zero, Nat.mul_zero]
          · have : tms 2 (l - 1) = 3 := by unfold tms; simp [h1]
            rw [this]
        have e3 : bm 2 l (n + 1) = bm 2 (l - 1) n + 1 := by unfold bm; rw [if_pos rfl, if_pos rfl]; split <;> split <;> omega
        rw [t1, e2, e3, Nat.mul_add, Nat.mul_one, Nat.add_assoc, Nat.add_comm (3 * b)]
        have e4 : l - 1 - bm 2 (l - 1) n = l - (bm 2 (l - 1) n + 1) := by omega
        rw [e4]
    · have h0 := hl hk
      subst h0
      rw [if_neg hk, if_neg hk]
      have e1 : bm k (0 - 1) n = n := by unfold bm; rw [if_neg hk]
      have e2 : bm k 0 (n + 1) = n + 1 := by unfold bm; rw [if_neg hk]
      have e3 : tms k (0 - 1) = tms k 0 := rfl
      rw [e1, e2, e3, Nat.mul_add, Nat.mul_one, Nat.add_assoc, Nat.add_comm (tms k 0 * b)]
def dc (x : Int32) : Nat := x.toNatClampNeg
theorem dc_nI {n : Nat} (h : n < 2147483648) : dc (nI n) = n := nI_clamp h
/-- a cell of which the reference's bath may speak -/
def okc (k d l : Int32) : Prop := ∃ kn dn ln : Nat, k = nI kn ∧ d = nI dn ∧ l = nI ln ∧ kn ≤ 2 ∧ dn ≤ 9999 ∧ ln ≤ 60
theorem prod_le {t b m : Nat} (ht : t ≤ 3) (hb : b ≤ 13) (hm : m ≤ 200) : t * b * m ≤ 7800 := by
  have h1 : t * b ≤ 39 := Nat.mul_le_mul ht hb
  exact Nat.mul_le_mul h1 hm
theorem bc4 {K D L : Nat → Int32} {j b n : Nat} (hj : j < 108) (hb : b ≤ 13) (hn : n ≤ 200) (h : okc (K j) (D j) (L j)) : fX1_batheCell K D L (nI j) (nI b) (nI n) = some (upd D j (nI (clD b (dc (K j)) n (dc (D j)) (dc (L j)))), upd L j (nI (clL (dc (K j)) n (dc (L j))))) := by
  obtain ⟨k, d, l, hk, hd, hl, b1, b2, b3⟩ := h
  rw [hk, hd, hl, dc_nI (by omega), dc_nI (by omega), dc_nI (by omega)]
  unfold fX1_batheCell fX1_bitingMinutes
  have hm : bm k l n ≤ 200 := by unfold bm; split <;> (try split) <;> omega
  have ht := tms_le k l
  have hp := prod_le ht hb hm
  rw [tm4 K L hj hk hl b1 b3]
  simp (disch := omega) only [q_inb, q_cl, hk, hd, hl, l2, q_eq, Option.bind_some]
  rw [if_pos hj]
  have e0 : (if k = 2 then some (if nI l < nI n then nI l else nI n) else some (nI n)) = some (nI (bm k l n)) := by
    unfold bm
    simp (disch := omega) only [q_lt]
    by_cases h2 : k = 2
    · rw [if_pos h2, if_pos h2]
      by_cases h3 : l < n
      · rw [if_pos h3, if_pos h3]
      · rw [if_neg h3, if_neg h3]
    · rw [if_neg h2, if_neg h2]
  rw [e0]
  simp only [Option.bind_some]
  have e1 : (if nI d + nI (tms k l) * nI b * nI (bm k l n) < (9999 : Int32) then nI d + nI (tms k l) * nI b * nI (bm k l n) else (9999 : Int32)) = nI (clD b k n d l) := by
    rw [pk_mul, pk_mul, nI_add, l9999]
    unfold clD mn
    simp (disch := omega) only [q_lt]
    by_cases h3 : d + tms k l * b * bm k l n < 9999
    · rw [if_pos h3, if_pos h3]
    · rw [if_neg h3, if_neg h3]
  rw [if_pos hj, e1]
  unfold clL
  by_cases h2 : k = 2
  · rw [if_pos h2, if_pos h2, q_sub (by unfold bm; split <;> (try split) <;> omega)]
  · rw [if_neg h2, if_neg h2, ← hl, up_same]
def pf (f : Nat → Int32) (g : Nat → Int32) (P : Nat → Prop) [DecidablePred P] (i m : Nat) : Nat → Int32 := fun j => if (i ≤ j ∧ j < i + m) ∧ P j then g j else f j
theorem bp4 {K S : Nat → Int32} {p b n : Nat} (hp : p < 3) (hb : b ≤ 13) (hn : n ≤ 200) (D0 L0 : Nat → Int32) (h0 : ∀ j, j < 108 → okc (K j) (D0 j) (L0 j)) :
    ∀ (m fu i : Nat) (D L : Nat → Int32), i + m = 36 * p + 36 → 36 * p ≤ i → m < fu → (∀ j, i ≤ j → D j = D0 j ∧ L j = L0 j) → fX1_bathePlate_6 K S (nI p) (nI b) (nI n) fu (nI i) D L = some (pf D (fun j => nI (clD b (dc (K j)) n (dc (D0 j)) (dc (L0 j)))) (fun j => S j = 0) i m, pf L (fun j => nI (clL (dc (K j)) n (dc (L0 j)))) (fun j => S j = 0) i m) := by
  intro m
  induction m with
  | zero =>
    intro fu i D L h1 h3 h2 h4
    obtain ⟨fu, rfl⟩ := n_suc h2
    rw [fX1_bathePlate_6, e4h, if_pos (by rw [q_le (by omega) (by omega)]; omega)]
    have e : ∀ (f g : Nat → Int32), pf f g (fun j => S j = 0) i 0 = f := fun f g => by funext j; exact if_neg (fun h => by omega)
    rw [e, e]
  | succ m ih =>
    intro fu i D L h1 h3 h2 h4
    obtain ⟨fu, rfl⟩ := n_suc h2
    rw [fX1_bathePlate_6, e4h, if_neg (by rw [q_le (by omega) (by omega)]; omega), if_pos (by rw [q_inb (by omega)]; omega), q_cl (by omega)]
    unfold fX1_bathePlate_35
    obtain ⟨d1, d2⟩ := h4 i (Nat.le_refl _)
    by_cases hs : S i = 0
    · rw [if_pos hs, bc4 (by omega) hb hn (by rw [d1, d2]; exact h0 i (by omega))]
      simp only [Option.bind_some]
      rw [nx, ih fu (i + 1) _ _ (by omega) (by omega) (by omega) (fun j hj => by rw [up_ne _ _ (by omega), up_ne _ _ (by omega)]; exact h4 j (by omega)), d1, d2]
      have e : ∀ (f g : Nat → Int32), pf (upd f i (g i)) g (fun j => S j = 0) (i + 1) m = pf f g (fun j => S j = 0) i (m + 1) := fun f g => by
        funext j
        unfold pf
        by_cases h : (i + 1 ≤ j ∧ j < i + 1 + m) ∧ S j = 0
        · rw [if_pos h, if_pos ⟨by omega, h.2⟩]
        · rw [if_neg h]
          by_cases e : j = i
          · rw [e, up_at, if_pos ⟨by omega, hs⟩]
          · rw [up_ne _ _ e, if_neg (fun h9 => h ⟨by omega, h9.2⟩)]
      rw [e D (fun j => nI (clD b (dc (K j)) n (dc (D0 j)) (dc (L0 j)))), e L (fun j => nI (clL (dc (K j)) n (dc (L0 j))))]
    · rw [if_neg hs, nx, ih fu (i + 1) _ _ (by omega) (by omega) (by omega) (fun j hj => h4 j (by omega))]
      have e : ∀ (f g : Nat → Int32), pf f g (fun j => S j = 0) (i + 1) m = pf f g (fun j => S j = 0) i (m + 1) := fun f g => by
        funext j
        unfold pf
        by_cases h : (i + 1 ≤ j ∧ j < i + 1 + m) ∧ S j = 0
        · rw [if_pos h, if_pos ⟨by omega, h.2⟩]
        · rw [if_neg h, if_neg (fun h9 => h ⟨by
            have : j ≠ i := fun e => hs (e ▸ h9.2)
            omega, h9.2⟩)]
      rw [e, e]
theorem bs5 {G De Li St : Nat → Int32} {x a c : Nat} (hx : x < 108) (ha : a ≤ 9) (hc : c ≤ 4) (h : okc (G x) (De x) (Li x)) (hs : St x = 0) : fX5_bites G De Li St (nI a) (nI c) (nI x) = some (upd De x (nI (mn (dc (De x) + tms (dc (G x)) (dc (Li x)) * bt a c))), upd Li x (nI (dc (Li x) - 1))) := by
  obtain ⟨k, d, l, hk, hd, hl, b1, b2, b3⟩ := h
  obtain ⟨t1, t2⟩ := bt_le ha hc
  have hp : tms k l * bt a c ≤ 39 := Nat.mul_le_mul (tms_le k l) t2
  rw [hk, hd, hl, dc_nI (by omega), dc_nI (by omega), dc_nI (by omega)]
  unfold fX5_bites
  rw [if_pos (by rw [q_inb (by omega)]; omega), q_cl (by omega), if_pos hs, tm5 G Li (by omega) hk hl b1 b3, bi5 ha hc]
  simp only [Option.bind_some]
  rw [hd, pk_mul, nI_add, l9999]
  have e : (if nI (d + tms k l * bt a c) ≤ nI 9999 then fX5_bites_47 De Li (nI x) (nI (d + tms k l * bt a c)) else fX5_bites_47 De Li (nI x) (nI 9999)) = fX5_bites_47 De Li (nI x) (nI (mn (d + tms k l * bt a c))) := by
    unfold mn
    simp (disch := omega) only [q_le]
    by_cases h1 : d + tms k l * bt a c ≤ 9999
    · rw [if_pos h1]
      by_cases h2 : d + tms k l * bt a c < 9999
      · rw [if_pos h2]
      · rw [if_neg h2, show d + tms k l * bt a c = 9999 by omega]
    · rw [if_neg h1, if_neg (by omega)]
  rw [e]
  unfold fX5_bites_47 fX5_bites_69
  rw [q_cl (by omega), hl]
  by_cases h0 : l = 0
  · rw [if_pos (show nI l ≤ 0 by rw [h0]; decide), h0, show nI 0 - (0 : Int32) = nI (0 - 1) from rfl]
  · rw [if_neg (show ¬ nI l ≤ 0 by rw [l0, q_le (by omega) (by omega)]; omega), l1, q_sub (by omega)]
theorem bs5s {G De Li St : Nat → Int32} {x a c : Nat} (hx : x < 108) (hs : ¬ St x = 0) : fX5_bites G De Li St (nI a) (nI c) (nI x) = some (De, Li) := by
  unfold fX5_bites
  rw [if_pos (by rw [q_inb (by omega)]; omega), q_cl (by omega), if_neg hs]
/-- one minute of a plate -/
theorem bi13 {G St : Nat → Int32} {p a c : Nat} (hp : p < 3) (ha : a ≤ 9) (hc : c ≤ 4) (x2 : Int32) (k2 : Int32 → (Nat → Int32) → (Nat → Int32) → Option ((Nat → Int32) × (Nat → Int32))) (D0 L0 : Nat → Int32) (h0 : ∀ j, j < 108 → okc (G j) (D0 j) (L0 j)) :
    ∀ (m fu i : Nat) (D L : Nat → Int32), i + m = 36 * p + 36 → 36 * p ≤ i → m < fu → (∀ j, i ≤ j → D j = D0 j ∧ L j = L0 j) → fX5_bathes_13 G St (nI a) (nI c) (nI p) x2 k2 fu (nI i) D L = k2 (x2 + 1) (pf D (fun j => nI (mn (dc (D0 j) + tms (dc (G j)) (dc (L0 j)) * bt a c))) (fun j => St j = 0) i m) (pf L (fun j => nI (dc (L0 j) - 1)) (fun j => St j = 0) i m) := by
  intro m
  induction m with
  | zero =>
    intro fu i D L h1 h3 h2 h4
    obtain ⟨fu, rfl⟩ := n_suc h2
    rw [fX5_bathes_13, e5h, if_pos (by rw [q_le (by omega) (by omega)]; omega)]
    have e : ∀ (f g : Nat → Int32), pf f g (fun j => St j = 0) i 0 = f := fun f g => by funext j; exact if_neg (fun h => by omega)
    rw [e, e]
    rfl
  | succ m ih =>
    intro fu i D L h1 h3 h2 h4
    obtain ⟨fu, rfl⟩ := n_suc h2
    rw [fX5_bathes_13, e5h, if_neg (by rw [q_le (by omega) (by omega)]; omega)]
    obtain ⟨d1, d2⟩ := h4 i (Nat.le_refl _)
    by_cases hs : St i = 0
    · rw [bs5 (by omega) ha hc (by rw [d1, d2]; exact h0 i (by omega)) hs]
      simp only [Option.bind_some]
      rw [nx, ih fu (i + 1) _ _ (by omega) (by omega) (by omega) (fun j hj => by rw [up_ne _ _ (by omega), up_ne _ _ (by omega)]; exact h4 j (by omega)), d1, d2]
      have e : ∀ (f g : Nat → Int32), pf (upd f i (g i)) g (fun j => St j = 0) (i + 1) m = pf f g (fun j => St j = 0) i (m + 1) := fun f g => by
        funext j
        unfold pf
        by_cases h : (i + 1 ≤ j ∧ j < i + 1 + m) ∧ St j = 0
        · rw [if_pos h, if_pos ⟨by omega, h.2⟩]
        · rw [if_neg h]
          by_cases e : j = i
          · rw [e, up_at, if_pos ⟨by omega, hs⟩]
          · rw [up_ne _ _ e, if_neg (fun h9 => h ⟨by omega, h9.2⟩)]
      rw [e D (fun j => nI (mn (dc (D0 j) + tms (dc (G j)) (dc (L0 j)) * bt a c))), e L (fun j => nI (dc (L0 j) - 1))]
    · rw [bs5s (by omega) hs]
      simp only [Option.bind_some]
      rw [nx, ih fu (i + 1) _ _ (by omega) (by omega) (by omega) (fun j hj => h4 j (by omega))]
      have e : ∀ (f g : Nat → Int32), pf f g (fun j => St j = 0) (i + 1) m = pf f g (fun j => St j = 0) i (m + 1) := fun f g => by
        funext j
        unfold pf
        by_cases h : (i + 1 ≤ j ∧ j < i + 1 + m) ∧ St j = 0
        · rw [if_pos h, if_pos ⟨by omega, h.2⟩]
        · rw [if_neg h, if_neg (fun h9 => h ⟨by
            have : j ≠ i := fun e => hs (e ▸ h9.2)
            omega, h9.2⟩)]
      rw [e, e]
theorem bt5 {G St : Nat → Int32} {p a c N : Nat} (hp : p < 3) (ha : a ≤ 9) (hc : c ≤ 4) (hN : N ≤ 200) :
    ∀ (m fu x : Nat) (D L : Nat → Int32), x + m = N → m < fu → (∀ j, j < 108 → okc (G j) (D j) (L j)) → fX5_bathes_2 G St (nI a) (nI c) (nI p) (nI N) fu (nI x) D L = some (pf D (fun j => nI (mb (bt a c) (dc (G j)) m (dc (D j)) (dc (L j))).1) (fun j => St j = 0) (36 * p) 36, pf L (fun j => nI (mb (bt a c) (dc (G j)) m (dc (D j)) (dc (L j))).2) (fun j => St j = 0) (36 * p) 36) := by
  intro m
  induction m with
  | zero =>
    intro fu x D L h1 h2 h4
    obtain ⟨fu, rfl⟩ := n_suc h2
    rw [fX5_bathes_2, if_pos (by rw [q_le (by omega) (by omega)]; omega)]
    have e : ∀ (f g : Nat → Int32), (∀ j, j < 108 → g j = f j) → pf f g (fun j => St j = 0) (36 * p) 36 = f := fun f g hg => by
      funext j
      unfold pf
      by_cases h : (36 * p ≤ j ∧ j < 36 * p + 36) ∧ St j = 0
      · rw [if_pos h]; exact hg j (by omega)
      · rw [if_neg h]
    rw [e D _ (fun j hj => by obtain ⟨k, d, l, hk, hd, hl, b1, b2, b3⟩ := h4 j hj; rw [hd, dc_nI (by omega)]; rfl), e L _ (fun j hj => by obtain ⟨k, d, l, hk, hd, hl, b1, b2, b3⟩ := h4 j hj; rw [hl, dc_nI (by omega)]; rfl)]
  | succ m ih =>
    intro fu x D L h1 h2 h4
    obtain ⟨fu, rfl⟩ := n_suc h2
    rw [fX5_bathes_2, if_neg (by rw [q_le (by omega) (by omega)]; omega), s5h, bi13 hp ha hc _ _ D L h4 36 100000 (36 * p) D L (by omega) (by omega) (by omega) (fun _ _ => ⟨rfl, rfl⟩), nx, ih fu (x + 1) _ _ (by omega) (by omega)]
    · have e : ∀ (f g g1 g2 : Nat → Int32), (∀ j, (36 * p ≤ j ∧ j < 36 * p + 36) ∧ St j = 0 → g1 j = g j) → pf (pf f g2 (fun j => St j = 0) (36 * p) 36) g1 (fun j => St j = 0) (36 * p) 36 = pf f g (fun j => St j = 0) (36 * p) 36 := fun f g g1 g2 hg => by
        funext j
        unfold pf
        by_cases h : (36 * p ≤ j ∧ j < 36 * p + 36) ∧ St j = 0
        · rw [if_pos h, if_pos h]; exact hg j h
        · rw [if_neg h, if_neg h, if_neg h]
      rw [e D (fun j => nI (mb (bt a c) (dc (G j)) (m + 1) (dc (D j)) (dc (L j))).1), e L (fun j => nI (mb (bt a c) (dc (G j)) (m + 1) (dc (D j)) (dc (L j))).2)]
      · intro j h
        have hl := h4 j (by omega)
        obtain ⟨k, d, l, hk, hd, hl, b1, b2, b3⟩ := hl
        unfold pf
        rw [if_pos h, if_pos h, dc_nI (Nat.lt_of_le_of_lt (mn_le _) (by omega)), dc_nI (by rw [hl, dc_nI (by omega)]; omega)]
        rfl
      · intro j h
        have hl := h4 j (by omega)
        obtain ⟨k, d, l, hk, hd, hl, b1, b2, b3⟩ := hl
        unfold pf
        rw [if_pos h, if_pos h, dc_nI (Nat.lt_of_le_of_lt (mn_le _) (by omega)), dc_nI (by rw [hl, dc_nI (by omega)]; omega)]
        rfl
    · intro j hj
      obtain ⟨k, d, l, hk, hd, hl, b1, b2, b3⟩ := h4 j hj
      unfold pf
      by_cases h : (36 * p ≤ j ∧ j < 36 * p + 36) ∧ St j = 0
      · rw [if_pos h, if_pos h]
        dsimp only
        rw [hl, dc_nI (by omega)]
        exact ⟨k, _, _, hk, rfl, rfl, b1, mn_le _, by omega⟩
      · rw [if_neg h, if_neg h]; exact ⟨k, d, l, hk, hd, hl, b1, b2, b3⟩
section OPS6
variable {K D L S : Nat → Int32} {sf : Nat → Option Nat} {T : Nat → Nat → Nat → Int32} {G De Li St Ke F Fo : Nat → Int32}
theorem clL_le {k n l : Nat} (h : l ≤ 60) : clL k n l ≤ 60 := by unfold clL; split <;> omega
theorem bath_ok (hP : InvP K D L S sf T G De Li St Ke) {p a c n : Nat} (hp : p < 3) (ha : a ≤ 9) (hc : c ≤ 4) (hn : n ≤ 200) : ∃ D' L' De' Li', fX1_bathePlate K D L S (nI p) (nI (bt a c)) (nI n) = some (D', L') ∧ fX5_bathes G De Li St (nI a) (nI c) (nI p) (nI n) = some (De', Li') ∧ InvP K D' L' S sf T G De' Li' St Ke := by
  obtain ⟨t1, t2⟩ := bt_le ha hc
  have o4 : ∀ j, j < 108 → okc (K j) (D j) (L j) := fun j hj => by
    obtain ⟨⟨kn, dn, ln, sn, hk, hd, hl, hs, b1, b2, b3, b4, b5⟩, -⟩ := hP.at hj
    exact ⟨kn, dn, ln, hk, hd, hl, b1, b2, b3⟩
  have o5 : ∀ j, j < 108 → okc (G j) (De j) (Li j) := fun j hj => by
    obtain ⟨-, e1, e2, e3, e4⟩ := hP.at hj
    rw [e1, e2, e3]
    exact o4 j hj
  refine ⟨_, _, _, _, by unfold fX1_bathePlate; rw [s4h]; exact bp4 hp t2 hn D L o4 36 100000 (36 * p) D L (by omega) (by omega) (by omega) (fun _ _ => ⟨rfl, rfl⟩), bt5 hp ha hc hn n 100000 0 De Li (by omega) (by omega) o5, ?_⟩
  refine hP.main (fun i hi => ?_) (fun i h1 h2 => ?_)
  · rw [Nat.zero_add]
    obtain ⟨⟨kn, dn, ln, sn, hk, hd, hl, hs, b1, b2, b3, b4, b5⟩, e1, e2, e3, e4⟩ := hP.at hi
    unfold pf
    dsimp only
    simp only [e4]
    by_cases h : (36 * p ≤ i ∧ i < 36 * p + 36) ∧ S i = 0
    · rw [if_pos h, if_pos h, if_pos h, if_pos h, e1, e2, e3, hk, hd, hl, dc_nI (by omega), dc_nI (by omega), dc_nI (by omega), mb_cl _ _ n dn ln b2 b5]
      exact ⟨⟨kn, _, _, sn, rfl, rfl, rfl, hs, b1, mn_le _, clL_le b3, b4, fun h9 => by unfold clL; rw [if_neg h9]; exact b5 h9⟩, rfl, rfl, rfl, trivial⟩
    · rw [if_neg h, if_neg h, if_neg h, if_neg h]
      exact ⟨⟨kn, dn, ln, sn, hk, hd, hl, hs, b1, b2, b3, b4, b5⟩, e1, e2, e3, trivial⟩
  · have h' : ¬ ((36 * p ≤ i ∧ i < 36 * p + 36) ∧ St i = 0) := fun h => by omega
    exact ⟨rfl, if_neg h', if_neg h', rfl⟩
theorem sum_lp (hD : ∀ i, i < 108 → De i = D i) {p : Nat} (hp : p < 3) (Lx : Nat → Int32) : ∀ (m n n' i : Nat) (acc : Int32), i + m = 36 * p + 36 → m < n → m < n' → ∃ r, fX1_depthOfPlate_7 D (nI p) n acc (nI i) = some r ∧ fX5_bathe_38 Fo (nI p) (De, Lx) n' acc (nI i) = some (r, De, Lx, Fo) := by
  intro m
  induction m with
  | zero =>
    intro n n' i acc h1 h2 h3
    obtain ⟨n, rfl⟩ := n_suc h2
    obtain ⟨n', rfl⟩ := n_suc h3
    have hc : nI (36 * p + 36) ≤ nI i := by rw [q_le (by omega) (by omega)]; omega
    rw [fX1_depthOfPlate_7, fX5_bathe_38, e4h, e5h, if_pos hc, if_pos hc]
    exact ⟨_, rfl, rfl⟩
  | succ m ih =>
    intro n n' i acc h1 h2 h3
    obtain ⟨n, rfl⟩ := n_suc h2
    obtain ⟨n', rfl⟩ := n_suc h3
    have hc : ¬ nI (36 * p + 36) ≤ nI i := by rw [q_le (by omega) (by omega)]; omega
    rw [fX1_depthOfPlate_7, fX5_bathe_38, e4h, e5h, if_neg hc, if_neg hc, if_pos (by rw [q_inb (by omega)]; omega), if_pos (by rw [q_inb (by omega)]; omega), q_cl (by omega)]
    dsimp only
    rw [hD i (by omega), nx]
    exact ih n n' (i + 1) _ (by omega) (by omega) (by omega)
theorem op_bathe (hP : InvP K D L S sf T G De Li St Ke) {st he ms mh : Int32} (hB : InvB st he ms mh) (hF : InvF F Fo) (p q : Int32) : ∃ u v, fX4_bathe K D L S F st he p q = some u ∧ fX5_bathe G De Li St ms mh Fo p q = some v ∧ v.1 = u.1 ∧ InvP K u.2.1 u.2.2.1 S sf T G v.2.1 v.2.2.1 St Ke ∧ InvF u.2.2.2 v.2.2.2 := by
  obtain ⟨rfl, rfl, a, c, rfl, rfl, b1, b2, b3⟩ := hB
  unfold fX4_bathe fX5_bathe fX4_bathe_19 fX5_bathe_18
  rw [ip4, ip5, in5, fd1, fs1, bi4 b2 b3]
  simp only [Option.bind_some]
  by_cases hp : p < 0 ∨ 2 < p
  · rw [if_pos hp, if_pos c00, if_pos c00]
    exact ⟨_, _, rfl, rfl, rfl, hP, hF.fnd (by decide)⟩
  · rw [if_neg hp, if_neg c10, if_neg c10]
    obtain ⟨k, hk, rfl⟩ := pl_of hp
    by_cases h1 : q < 1 ∨ 200 < q
    · rw [if_pos h1, if_pos c00]
      by_cases h2 : q < 1
      · rw [if_pos h2]; exact ⟨_, _, rfl, rfl, rfl, hP, hF.fnd (by decide)⟩
      · rw [if_neg h2, if_neg (by rw [i32_nle]; exact h1.resolve_left h2)]; exact ⟨_, _, rfl, rfl, rfl, hP, hF.fnd (by decide)⟩
    · rw [if_neg h1, if_neg c10, if_neg (fun h => h1 (Or.inl h)), if_pos (i32_nlt.mp (fun h => h1 (Or.inr h)))]
      have h3 : ¬ (q < 0 ∨ 200 < q) := fun h => h.elim (fun h => h1 (Or.inl (Int32.lt_trans h (by decide)))) (fun h => h1 (Or.inr h))
      obtain ⟨n, hn, rfl⟩ := rg_of (m := 200) (by omega) rfl h3
      obtain ⟨D', L', De', Li', r1, r2, hP'⟩ := bath_ok hP hk b2 b3 hn
      rw [r1, r2]
      simp only [Option.bind_some]
      unfold fX1_depthOfPlate
      obtain ⟨r, r3, r4⟩ := sum_lp (D := D') (De := De') (Fo := Fo) (fun i hi => (hP'.at hi).2.2.1) hk Li' 36 100000 100000 (36 * k) 0 (by omega) (by omega) (by omega)
      rw [s4h, s5h, r3, r4]
      exact ⟨_, _, rfl, rfl, rfl, hP', hF⟩
end OPS6
