theorem e4h (p : Nat) : (nI p + (1 : Int32)) * (36 : Int32) = nI (36 * p + 36) := by rw [l1, l36, nI_add, pk_mul]; exact congrArg nI (by omega)
theorem s4h (p : Nat) : nI p * (36 : Int32) = nI (36 * p) := by rw [l36, pk_mul]; exact congrArg nI (by omega)
theorem s5h (p : Nat) : (36 : Int32) * nI p = nI (36 * p) := by rw [l36, pk_mul]
theorem e5h (p : Nat) : (36 : Int32) * nI p + (36 : Int32) = nI (36 * p + 36) := by rw [s5h, l36, nI_add]
theorem nx (n : Nat) : nI n + (1 : Int32) = nI (n + 1) := nI_1 n
theorem n_suc {n m : Nat} (h : m < n) : ∃ k, n = k + 1 := ⟨n - 1, by omega⟩
theorem up2 {f g : Nat → Int32} {i : Nat} (k : Nat) (x : Int32) (h : g i = f i) : upd g k x i = upd f k x i := by
  by_cases e : i = k
  · rw [e, up_at, up_at]
  · rw [up_ne _ _ e, up_ne _ _ e]; exact h
theorem fu : ∃ k, (100000 : Nat) = k + 1 := ⟨99999, rfl⟩
/-- how many of a row's places aren't 0 -/
def cs (S : Nat → Int32) (i : Nat) : Nat → Nat
  | 0 => 0
  | m + 1 => (if S i = 0 then 0 else 1) + cs S (i + 1) m
theorem cs_congr {S S' : Nat → Int32} : ∀ (m i : Nat), (∀ j, i ≤ j → j < i + m → S' j = S j) → cs S' i m = cs S i m
  | 0, _, _ => rfl
  | m + 1, i, h => by rw [cs, cs, h i (Nat.le_refl _) (by omega), cs_congr m (i + 1) (fun j h1 h2 => h j (by omega) (by omega))]
theorem cs_le (S : Nat → Int32) : ∀ (m i : Nat), cs S i m ≤ m
  | 0, _ => Nat.le_refl _
  | m + 1, i => by rw [cs]; have := cs_le S m (i + 1); split <;> omega
def zr (S : Nat → Int32) (i m : Nat) : Nat → Int32 := fun j => if i ≤ j ∧ j < i + m then nI 0 else S j
theorem zr_0 (S : Nat → Int32) (i : Nat) : zr S i 0 = S := by funext j; exact if_neg (by omega)
theorem zr_s (S : Nat → Int32) (i m : Nat) : zr (upd S i (nI 0)) (i + 1) m = zr S i (m + 1) := by
  funext j
  unfold zr
  by_cases h : i + 1 ≤ j ∧ j < i + 1 + m
  · rw [if_pos h, if_pos (by omega)]
  · rw [if_neg h]
    by_cases e : j = i
    · rw [e, up_at, if_pos (by omega)]
    · rw [up_ne _ _ e, if_neg (by omega)]
theorem zr_s0 {S : Nat → Int32} {i : Nat} (h0 : S i = 0) (m : Nat) : zr S (i + 1) m = zr S i (m + 1) := by
  rw [← zr_s]
  have : upd S i (nI 0) = S := by rw [← l0, ← h0, up_same]
  rw [this]
theorem cl4 {p : Nat} (hp : p < 3) : ∀ (m n i a : Nat) (S : Nat → Int32), i + m = 36 * p + 36 → m < n → fX1_cleanPlate_7 (nI p) n (nI a) (nI i) S = some (nI (a + cs S i m), zr S i m) := by
  intro m
  induction m with
  | zero =>
    intro n i a S h1 h2
    obtain ⟨n, rfl⟩ := n_suc h2
    rw [fX1_cleanPlate_7, e4h, if_pos (by rw [q_le (by omega) (by omega)]; omega), zr_0]
    rfl
  | succ m ih =>
    intro n i a S h1 h2
    obtain ⟨n, rfl⟩ := n_suc h2
    rw [fX1_cleanPlate_7, e4h, if_neg (by rw [q_le (by omega) (by omega)]; omega), if_pos (by rw [q_inb (by omega)]; omega), q_cl (by omega)]
    unfold fX1_cleanPlate_36
    rw [q_and0]
    by_cases h0 : S i = 0
    · rw [if_pos h0, nx, ih n (i + 1) a S (by omega) (by omega), zr_s0 h0, cs, if_pos h0, Nat.zero_add]
    · rw [if_neg h0, nx, nx, ih n (i + 1) (a + 1) _ (by omega) (by omega), zr_s, cs, if_neg h0, cs_congr (S := S) m (i + 1) (fun j h1 h2 => up_ne S _ (by omega))]
      exact congrArg (fun z => some (nI z, _)) (by omega)
theorem cl5 {p : Nat} (hp : p < 3) (Fo : Nat → Int32) : ∀ (m n i a : Nat) (S : Nat → Int32), i + m = 36 * p + 36 → m < n → fX5_clean_20 Fo (nI p) n (nI a) (nI i) S = some (nI (a + cs S i m), zr S i m, Fo) := by
  intro m
  induction m with
  | zero =>
    intro n i a S h1 h2
    obtain ⟨n, rfl⟩ := n_suc h2
    rw [fX5_clean_20, e5h, if_pos (by rw [q_le (by omega) (by omega)]; omega), zr_0]
    rfl
  | succ m ih =>
    intro n i a S h1 h2
    obtain ⟨n, rfl⟩ := n_suc h2
    rw [fX5_clean_20, e5h, if_neg (by rw [q_le (by omega) (by omega)]; omega), if_pos (by rw [q_inb (by omega)]; omega), q_cl (by omega)]
    unfold fX5_clean_46
    rw [q_and0, q_cl (by omega), nx, nx, l0, nI_add, ih n (i + 1) (a + 0) _ (by omega) (by omega), ih n (i + 1) (a + 1) _ (by omega) (by omega), zr_s, cs, cs_congr (S := S) m (i + 1) (fun j h1 h2 => up_ne S _ (by omega))]
    by_cases h0 : S i = nI 0
    · rw [if_pos h0, if_pos (h0.trans l0.symm)]
      exact congrArg (fun z => some (nI z, _)) (by omega)
    · rw [if_neg h0, if_neg (fun e => h0 (e.trans l0))]
      exact congrArg (fun z => some (nI z, _)) (by omega)
section OPS2
variable {K D L S : Nat → Int32} {sf : Nat → Option Nat} {T : Nat → Nat → Nat → Int32} {G De Li St Ke F Fo : Nat → Int32}
theorem op_clean (hP : InvP K D L S sf T G De Li St Ke) (hF : InvF F Fo) (p : Int32) : ∃ u v, fX4_clean S F p = some u ∧ fX5_clean St Fo p = some v ∧ v.1 = u.1 ∧ InvP K D L u.2.1 sf T G De Li v.2.1 Ke ∧ InvF u.2.2 v.2.2 := by
  unfold fX4_clean fX5_clean
  rw [ip4, ip5, fd1, fs1]
  simp only [Option.bind_some]
  by_cases hp : p < 0 ∨ 2 < p
  · rw [if_pos hp, if_pos c00, if_pos c00]
    exact ⟨_, _, rfl, rfl, rfl, hP, hF.fnd (by decide)⟩
  · rw [if_neg hp, if_neg c10, if_neg c10]
    obtain ⟨k, hk, rfl⟩ := pl_of hp
    unfold fX1_cleanPlate
    rw [s4h, s5h, l0, cl4 hk 36 100000 (36 * k) 0 S (by omega) (by omega), cl5 hk Fo 36 100000 (36 * k) 0 St (by omega) (by omega)]
    simp only [Option.bind_some]
    refine ⟨_, _, rfl, rfl, ?_, ?_, hF⟩
    · exact congrArg (fun z => nI (0 + z)) (cs_congr 36 (36 * k) (fun j h1 h2 => (hP.at (by omega)).2.2.2.2))
    · refine hP.main (fun i hi => ?_) (fun i h1 h2 => ?_)
      · simp only [Nat.zero_add]
        obtain ⟨⟨kn, dn, ln, sn, hk, hd, hl, hs, b1, b2, b3, b4, b5⟩, e1, e2, e3, e4⟩ := hP.at hi
        refine ⟨?_, e1, e2, e3, ?_⟩
        · unfold zr
          by_cases h : 36 * k ≤ i ∧ i < 36 * k + 36
          · rw [if_pos h]; exact ⟨kn, dn, ln, 0, hk, hd, hl, rfl, b1, b2, b3, by omega, b5⟩
          · rw [if_neg h]; exact ⟨kn, dn, ln, sn, hk, hd, hl, hs, b1, b2, b3, b4, b5⟩
        · unfold zr
          by_cases h : 36 * k ≤ i ∧ i < 36 * k + 36
          · rw [if_pos h, if_pos h]
          · rw [if_neg h, if_neg h]; exact e4
      · exact ⟨rfl, rfl, rfl, if_neg (show ¬ (36 * k ≤ i ∧ i < 36 * k + 36) by omega)⟩
/-- BITE -/
def bt (a b : Nat) : Nat := if 1 < a * (b + 2) / 4 then a * (b + 2) / 4 else 1
theorem bt_le {a b : Nat} (ha : a ≤ 9) (hb : b ≤ 4) : 1 ≤ bt a b ∧ bt a b ≤ 13 := by
  unfold bt
  have : a * (b + 2) ≤ 9 * 6 := Nat.mul_le_mul ha (by omega)
  split <;> omega
theorem bi4 {a b : Nat} (ha : a ≤ 9) (hb : b ≤ 4) : fX4_bite (nI a) (nI b) = some (nI (bt a b)) := by
  have h : a * (b + 2) ≤ 9 * 6 := Nat.mul_le_mul ha (by omega)
  unfold fX4_bite bt
  rw [l2, l4, l1, nI_add, pk_mul, q_div (by omega) (by omega) (by omega)]
  simp (disch := omega) only [q_lt]
  by_cases h1 : 1 < a * (b + 2) / 4
  · rw [if_pos h1, if_pos h1]
  · rw [if_neg h1, if_neg h1]
theorem bi5 {a b : Nat} (ha : a ≤ 9) (hb : b ≤ 4) : fX5_bite (nI a) (nI b) = some (nI (bt a b)) := by
  have h : a * (b + 2) ≤ 9 * 6 := Nat.mul_le_mul ha (by omega)
  unfold fX5_bite bt
  rw [l2, l4, l1, nI_add, pk_mul, q_div (by omega) (by omega) (by omega)]
  simp (disch := omega) only [q_le]
  by_cases h1 : 1 < a * (b + 2) / 4
  · rw [if_pos h1, if_pos (by omega)]
  · rw [if_neg h1]
    by_cases h2 : 1 ≤ a * (b + 2) / 4
    · rw [if_pos h2]; exact congrArg (fun z => some (nI z)) (by omega)
    · rw [if_neg h2]
theorem op_bath {st he ms mh : Int32} (hB : InvB st he ms mh) (hF : InvF F Fo) (p q : Int32) : ∃ u v, fX4_bath F st he p q = some u ∧ fX5_bath ms mh Fo p q = some v ∧ v.1 = u.1 ∧ InvF u.2.1 v.2.2.2 ∧ InvB u.2.2.1 u.2.2.2 v.2.1 v.2.2.1 := by
  unfold fX4_bath fX5_bath fX4_bath_20 fX5_bath_19
  rw [in5, in5, fd1, fs1]
  simp only [Option.bind_some]
  by_cases h1 : p < 1 ∨ 9 < p
  · rw [if_pos h1, if_pos c00]
    rcases h1 with h1 | h1
    · rw [if_pos h1]; exact ⟨_, _, rfl, rfl, rfl, hF.fnd (by decide), hB⟩
    · by_cases h2 : p < 1
      · rw [if_pos h2]; exact ⟨_, _, rfl, rfl, rfl, hF.fnd (by decide), hB⟩
      · rw [if_neg h2, if_pos h1]; exact ⟨_, _, rfl, rfl, rfl, hF.fnd (by decide), hB⟩
  · rw [if_neg h1, if_neg c10, if_neg (fun h => h1 (Or.inl h)), if_neg (fun h => h1 (Or.inr h))]
    by_cases h2 : q < 0 ∨ 4 < q
    · rw [if_pos h2, if_pos c00]
      by_cases h3 : q < 0
      · rw [if_pos h3]; exact ⟨_, _, rfl, rfl, rfl, hF.fnd (by decide), hB⟩
      · rw [if_neg h3, if_neg (by rw [i32_nle]; exact h2.resolve_left h3)]; exact ⟨_, _, rfl, rfl, rfl, hF.fnd (by decide), hB⟩
    · rw [if_neg h2, if_neg c10, if_neg (fun h => h2 (Or.inl h)), if_pos (i32_nlt.mp (fun h => h2 (Or.inr h)))]
      obtain ⟨b, hb, rfl⟩ := rg_of (m := 4) (by omega) rfl h2
      have h3 : ¬ (p < 0 ∨ 9 < p) := fun h => h.elim (fun h => h1 (Or.inl (Int32.lt_trans h (by decide)))) (fun h => h1 (Or.inr h))
      obtain ⟨a, ha, rfl⟩ := rg_of (m := 9) (by omega) rfl h3
      have h4 : ¬ nI a < nI 1 := fun h => h1 (Or.inl h)
      rw [q_lt (by omega) (by omega)] at h4
      rw [bi4 ha hb, bi5 ha hb]
      exact ⟨_, _, rfl, rfl, rfl, hF, rfl, rfl, a, b, rfl, rfl, by omega, ha, hb⟩
def tn (d : Nat) : Nat := if d / 40 < 15 then d / 40 else 15
theorem tn4 {d : Nat} (h : d ≤ 9999) : fX4_toneOf (nI d) = some (nI (tn d)) := by
  unfold fX4_toneOf tn
  simp (disch := omega) only [l40, l15, q_div, q_lt]
  by_cases h1 : d / 40 < 15
  · rw [if_pos h1, if_pos h1]
  · rw [if_neg h1, if_neg h1]
theorem tn5 {d : Nat} (h : d ≤ 9999) : fX5_toneOf (nI d) = some (nI (tn d)) := by
  unfold fX5_toneOf tn
  simp (disch := omega) only [l40, l15, q_div, q_le]
  by_cases h1 : d / 40 < 15
  · rw [if_pos h1, if_pos (by omega)]
  · rw [if_neg h1]
    by_cases h2 : d / 40 ≤ 15
    · rw [if_pos h2]; exact congrArg (fun z => some (nI z)) (by omega)
    · rw [if_neg h2]
theorem ta4 {D : Nat → Int32} {j d : Nat} (hj : j < 108) (hd : D j = nI d) (h : d ≤ 9999) : fX1_toneAt D (nI j) = some (nI (tn d)) := by
  unfold fX1_toneAt
  rw [if_pos (by rw [q_inb (by omega)]; exact hj), q_cl (by omega), hd, tn4 h]
  rfl
theorem op_about (hP : InvP K D L S sf T G De Li St Ke) (hF : InvF F Fo) (p q : Int32) : ∃ u v, fX4_about K D L S F p q = some u ∧ fX5_about G De Li St Fo p q = some v ∧ v.1 = u.1 ∧ InvF u.2 v.2 := by
  unfold fX4_about fX5_about fX5_about_16
  rw [sp4, ic5, fd1, fs1]
  cases hc : cellOf p with
  | none => exact ⟨_, _, rfl, rfl, rfl, hF.fnd (by decide)⟩
  | some j =>
    have hj := cellOf_lt hc
    simp only [Option.bind_some]
    rw [if_pos (show (0 : Int32) ≤ nI j from nI_pos' (by omega)), if_neg c10, in5, (sp5 hc).1]
    obtain ⟨⟨kn, dn, ln, sn, hk, hd, hl, hs, b1, b2, b3, b4, b5⟩, e1, e2, e3, e4⟩ := hP.at hj
    rw [ta4 hj hd b2]
    simp (disch := omega) only [Option.bind_some, q_inb, q_cl]
    rw [e1, e2, e3, e4, hd, tn5 b2]
    simp only [Option.bind_some, if_pos hj, if_pos (show j < 648 by omega)]
    by_cases hq : q < 0 ∨ 4 < q
    · rw [if_pos hq, if_pos c00]
      rw [if_neg (fun e => by subst e; revert hq; decide), if_neg (fun e => by subst e; revert hq; decide), if_neg (fun e => by subst e; revert hq; decide), if_neg (fun e => by subst e; revert hq; decide), if_neg (fun e => by subst e; revert hq; decide)]
      exact ⟨_, _, rfl, rfl, rfl, hF.fnd (by decide)⟩
    · rw [if_neg hq, if_neg c10]
      obtain ⟨n, hn, rfl⟩ := rg_of (m := 4) (by omega) rfl hq
      rcases (show n = 0 ∨ n = 1 ∨ n = 2 ∨ n = 3 ∨ n = 4 by omega) with rfl | rfl | rfl | rfl | rfl
      · exact ⟨_, _, rfl, rfl, rfl, hF⟩
      · exact ⟨_, _, rfl, rfl, rfl, hF⟩
      · by_cases h0 : S j = 0
        · rw [if_pos h0, if_pos h0]; exact ⟨_, _, rfl, rfl, rfl, hF⟩
        · rw [if_neg h0, if_neg h0]; exact ⟨_, _, rfl, rfl, rfl, hF⟩
      · exact ⟨_, _, rfl, rfl, rfl, hF⟩
      · exact ⟨_, _, rfl, rfl, rfl, hF⟩
theorem op_clear {sp to : Nat → Int32} {sz : Int32} {wc wt : Nat → Int32} {w : Int32} (hW : InvW sp to sz wc wt w) : ∃ u v, fX4_clear sz = some u ∧ fX5_clear w = some v ∧ v.1 = u.1 ∧ InvW sp to u.2 wc wt v.2 :=
  ⟨_, _, rfl, rfl, hW.1, rfl, 0, 0, rfl, by omega, by omega, fun i hi => absurd hi (by omega)⟩
theorem op_offset {dn ri st : Nat → Int32} {pu : Int32} {mdn mri mst : Nat → Int32} {mpu : Int32} (hR : InvR dn ri st pu mdn mri mst mpu) (hF : InvF F Fo) (p q r : Int32) : ∃ u v, fX4_offset dn ri F p q r = some u ∧ fX5_offset mdn mri Fo p q r = some v ∧ v.1 = u.1 ∧ InvR u.2.1 u.2.2.1 st pu v.2.1 v.2.2.1 mst mpu ∧ InvF u.2.2.2 v.2.2.2 := by
  unfold fX4_offset fX5_offset fX4_offset_27 fX5_offset_25
  rw [ip4, ip5, in5, in5, fd1, fs1]
  simp only [Option.bind_some]
  by_cases hp : p < 0 ∨ 2 < p
  · rw [if_pos hp, if_pos c00, if_pos c00]
    exact ⟨_, _, rfl, rfl, rfl, hR, hF.fnd (by decide)⟩
  · rw [if_neg hp, if_neg c10, if_neg c10]
    obtain ⟨k, hk, rfl⟩ := pl_of hp
    by_cases h1 : q < (-1) ∨ 1 < q
    · rw [if_pos h1, if_pos c00]
      by_cases h2 : q < (-1)
      · rw [if_pos h2]; exact ⟨_, _, rfl, rfl, rfl, hR, hF.fnd (by decide)⟩
      · rw [if_neg h2, if_pos (h1.resolve_left h2)]; exact ⟨_, _, rfl, rfl, rfl, hR, hF.fnd (by decide)⟩
    · rw [if_neg h1, if_neg c10, if_neg (fun h => h1 (Or.inl h)), if_neg (fun h => h1 (Or.inr h))]
      by_cases h2 : r < (-1) ∨ 1 < r
      · rw [if_pos h2, if_pos c00]
        by_cases h3 : r < (-1)
        · rw [if_pos h3]; exact ⟨_, _, rfl, rfl, rfl, hR, hF.fnd (by decide)⟩
        · rw [if_neg h3, if_neg (by rw [i32_nle]; exact h2.resolve_left h3)]; exact ⟨_, _, rfl, rfl, rfl, hR, hF.fnd (by decide)⟩
      · rw [if_neg h2, if_neg c10, if_neg (fun h => h2 (Or.inl h)), if_pos (i32_nlt.mp (fun h => h2 (Or.inr h)))]
        simp (disch := omega) only [q_inb, q_cl]
        rw [if_pos hk, if_pos hk]
        refine ⟨_, _, rfl, rfl, rfl, ⟨hR.1, fun i hi => ?_⟩, hF⟩
        obtain ⟨a, b, c, d⟩ := hR.2 i hi
        exact ⟨up2 k q a, up2 k r b, c, d⟩
theorem op_steel {dn ri st : Nat → Int32} {pu : Int32} {mdn mri mst : Nat → Int32} {mpu : Int32} (hR : InvR dn ri st pu mdn mri mst mpu) (hF : InvF F Fo) (p q : Int32) : ∃ u v, fX4_steel st F p q = some u ∧ fX5_steel mst Fo p q = some v ∧ v.1 = u.1 ∧ InvR dn ri u.2.1 pu mdn mri v.2.1 mpu ∧ InvF u.2.2 v.2.2 := by
  unfold fX4_steel fX5_steel fX4_steel_14 fX5_steel_16
  rw [ip4, ip5, in5, iw4, fd1, fs1]
  simp only [Option.bind_some]
  by_cases hp : p < 0 ∨ 2 < p
  · rw [if_pos hp, if_pos c00, if_pos c00]
    exact ⟨_, _, rfl, rfl, rfl, hR, hF.fnd (by decide)⟩
  · rw [if_neg hp, if_neg c10, if_neg c10]
    obtain ⟨k, hk, rfl⟩ := pl_of hp
    by_cases h1 : q < 0 ∨ 1 < q
    · rw [if_pos h1, if_pos c00, if_pos c00]
      exact ⟨_, _, rfl, rfl, rfl, hR, hF.fnd (by decide)⟩
    · rw [if_neg h1, if_neg c10, if_neg c10]
      unfold fX4_steel_50 fX5_steel_45
      simp (disch := omega) only [q_inb, q_cl]
      rw [if_pos hk, if_pos hk]
      have key : ∀ x : Nat, x ≤ 100 → InvR dn ri (upd st k (nI x)) pu mdn mri (upd mst k (nI x)) mpu := fun x hx => ⟨hR.1, fun i hi => by
        obtain ⟨a, b, c, d⟩ := hR.2 i hi
        refine ⟨a, b, ?_, ?_⟩
        · by_cases e : i = k
          · rw [e, up_at, up_at]
          · rw [up_ne _ _ e, up_ne _ _ e]; exact c
        · by_cases e : i = k
          · rw [e, up_at]; exact ⟨x, rfl, hx⟩
          · rw [up_ne _ _ e]; exact d⟩
      have e := (hR.2 k hk).2.2.1
      by_cases h2 : q = 1
      · rw [if_pos h2, if_pos h2]
        exact ⟨_, _, rfl, rfl, e, key 100 (by omega), hF⟩
      · rw [if_neg h2, if_neg h2]
        exact ⟨_, _, rfl, rfl, e, key 0 (by omega), hF⟩
theorem op_found (hF : InvF F Fo) (p : Int32) : ∃ u v, fX4_found F p = some u ∧ fX5_found Fo p = some v ∧ v.1 = u.1 ∧ InvF u.2 v.2 := by
  unfold fX4_found fX5_found fX4_found_10
  rw [in5, fd1, fs1]
  simp only [Option.bind_some]
  by_cases h1 : p < 1 ∨ 5 < p
  · rw [if_pos h1, if_pos c00]
    by_cases h2 : p < 1
    · rw [if_pos h2]; exact ⟨_, _, rfl, rfl, rfl, hF.fnd (by decide)⟩
    · rw [if_neg h2, if_neg (by rw [i32_nle]; exact h1.resolve_left h2)]; exact ⟨_, _, rfl, rfl, rfl, hF.fnd (by decide)⟩
  · rw [if_neg h1, if_neg c10, if_neg (fun h => h1 (Or.inl h)), if_pos (i32_nlt.mp (fun h => h1 (Or.inr h)))]
    have h3 : ¬ (p < 0 ∨ 5 < p) := fun h => h.elim (fun h => h1 (Or.inl (Int32.lt_trans h (by decide)))) (fun h => h1 (Or.inr h))
    obtain ⟨n, hn, rfl⟩ := rg_of (m := 5) (by omega) rfl h3
    simp (disch := omega) only [q_inb, q_cl]
    rw [if_pos (show n < 6 by omega), if_pos (show n < 6 by omega)]
    exact ⟨_, _, rfl, rfl, hF n (by omega), hF⟩
theorem op_tell {nu : Nat → Int32} {wa : Int32} {to : Nat → Int32} {mw : Int32} (hN : InvN nu wa to mw) (hF : InvF F Fo) (p : Int32) : ∃ u v, fX4_tell nu F wa p = some u ∧ fX5_tell mw to Fo p = some v ∧ v.1 = u.1 ∧ InvN u.2.1 u.2.2.2 v.2.2.1 v.2.1 ∧ InvF u.2.2.1 v.2.2.2 := by
  obtain ⟨rfl, n, rfl, hn, hw⟩ := id hN
  unfold fX4_tell fX5_tell
  rw [fd4, fs4]
  simp (disch := omega) only [q_inb, q_cl, l36, q_lt, q_eq, nx]
  by_cases h : n = 36
  · rw [if_neg (show ¬ n < 36 by omega), if_pos h]
    exact ⟨_, _, rfl, rfl, rfl, hN, hF.fnd (by decide)⟩
  · rw [if_pos (show n < 36 by omega), if_pos (show n < 36 by omega), if_neg h, if_pos (show n < 36 by omega)]
    refine ⟨_, _, rfl, rfl, rfl, ⟨rfl, n + 1, rfl, by omega, fun i hi => ?_⟩, hF⟩
    show upd to n p i = upd nu n p i
    by_cases e : i = n
    · rw [e, up_at, up_at]
    · rw [up_ne _ _ e, up_ne _ _ e]; exact hw i (by omega)
end OPS2
