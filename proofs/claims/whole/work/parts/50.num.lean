/-! numbers: Int32 as nI of naturals -/
theorem l0 : (0 : Int32) = nI 0 := rfl
theorem l1 : (1 : Int32) = nI 1 := rfl
theorem l2 : (2 : Int32) = nI 2 := rfl
theorem l3 : (3 : Int32) = nI 3 := rfl
theorem l4 : (4 : Int32) = nI 4 := rfl
theorem l5 : (5 : Int32) = nI 5 := rfl
theorem l6 : (6 : Int32) = nI 6 := rfl
theorem l8 : (8 : Int32) = nI 8 := rfl
theorem l9 : (9 : Int32) = nI 9 := rfl
theorem l10 : (10 : Int32) = nI 10 := rfl
theorem l15 : (15 : Int32) = nI 15 := rfl
theorem l36 : (36 : Int32) = nI 36 := rfl
theorem l40 : (40 : Int32) = nI 40 := rfl
theorem l50 : (50 : Int32) = nI 50 := rfl
theorem l60 : (60 : Int32) = nI 60 := rfl
theorem l100 : (100 : Int32) = nI 100 := rfl
theorem l108 : (108 : Int32) = nI 108 := rfl
theorem l200 : (200 : Int32) = nI 200 := rfl
theorem l201 : (201 : Int32) = nI 201 := rfl
theorem l300 : (300 : Int32) = nI 300 := rfl
theorem l9999 : (9999 : Int32) = nI 9999 := rfl
theorem q_le {a b : Nat} (ha : a < 2147483648) (hb : b < 2147483648) : (nI a ≤ nI b) = (a ≤ b) := propext (nI_leI ha hb)
theorem q_lt {a b : Nat} (ha : a < 2147483648) (hb : b < 2147483648) : (nI a < nI b) = (a < b) := propext (nI_ltI ha hb)
theorem q_eq {a b : Nat} (ha : a < 2147483648) (hb : b < 2147483648) : (nI a = nI b) = (a = b) := propext (nI_eq ha hb)
theorem q_cl {a : Nat} (ha : a < 2147483648) : (nI a).toNatClampNeg = a := nI_clamp ha
theorem q_sub {a b : Nat} (h : b ≤ a) : nI a - nI b = nI (a - b) := pk_sub h
theorem q_div {a d : Nat} (ha : a < 2147483648) (h0 : 0 < d) (hd : d < 2147483648) : nI a / nI d = nI (a / d) := pk_div ha h0 hd
theorem q_inb {k n : Nat} (hk : k < 2147483648) : (inb (nI k) n = true) = (k < n) := by
  unfold inb
  rw [nI_toInt hk]
  simp
theorem q_and0 : (0 : Int32) &&& (1 : Int32) = nI 0 := rfl
theorem q_and1 : (1 : Int32) &&& (1 : Int32) = nI 1 := rfl
theorem q_of {x : Int32} (h : ¬ x < 0) : ∃ j : Nat, j < 2147483648 ∧ x = nI j := nI_of h
theorem q_inj {a b : Nat} (ha : a < 2147483648) (hb : b < 2147483648) (h : nI a = nI b) : a = b := (nI_eq ha hb).mp h
theorem q_neg {a : Nat} (ha : a < 2147483648) : ¬ nI a < 0 := nI_pos ha
theorem q_negm1 : (-1 : Int32) < 0 := by decide
theorem up_same (f : Nat → Int32) (j : Nat) : upd f j (f j) = f := by
  funext i; unfold upd; by_cases h : i = j
  · rw [if_pos h, h]
  · rw [if_neg h]
theorem up_at (f : Nat → Int32) (j : Nat) (x : Int32) : upd f j x j = x := if_pos rfl
theorem up_ne (f : Nat → Int32) {j i : Nat} (x : Int32) (h : i ≠ j) : upd f j x i = f i := if_neg h
theorem i32_nle {a b : Int32} : ¬ a ≤ b ↔ b < a := Int32.not_le
theorem i32_nlt {a b : Int32} : ¬ a < b ↔ b ≤ a := Int32.not_lt
/-- which cell a number names -/
def cellOf (p : Int32) : Option Nat := if p < 0 then none else if p.toNatClampNeg / 100 < 3 ∧ p.toNatClampNeg % 100 < 36 then some (36 * (p.toNatClampNeg / 100) + p.toNatClampNeg % 100) else none
theorem cellOf_lt {p : Int32} {j : Nat} (h : cellOf p = some j) : j < 108 := by
  unfold cellOf at h
  by_cases h0 : p < 0
  · rw [if_pos h0] at h; cases h
  · rw [if_neg h0] at h
    by_cases h1 : p.toNatClampNeg / 100 < 3 ∧ p.toNatClampNeg % 100 < 36
    · rw [if_pos h1] at h; cases h; omega
    · rw [if_neg h1] at h; cases h
theorem sp4 (p : Int32) : fX4_spotOf p = some (match cellOf p with | none => -1 | some j => nI j) := by
  unfold fX4_spotOf fX4_spotOf_21 cellOf
  by_cases h0 : p < 0
  · rw [if_pos h0, if_pos h0]
  · rw [if_neg h0, if_neg h0]
    obtain ⟨n, hn, rfl⟩ := q_of h0
    simp (disch := omega) only [l3, l100, l36, q_div, pk_mul, q_sub, q_le, q_lt, q_cl, nI_add]
    by_cases h1 : 3 ≤ n / 100
    · rw [if_pos h1, if_neg (by omega)]
    · rw [if_neg h1]
      by_cases h2 : n % 100 < 36
      · rw [if_pos (by omega), if_pos ⟨by omega, h2⟩]
        exact congrArg (fun z => some (nI z)) (by omega)
      · rw [if_neg (by omega), if_neg (by omega)]
theorem ic5 (p : Int32) : fX5_isCell p = some (match cellOf p with | none => 0 | some _ => 1) := by
  unfold fX5_isCell fX5_isCell_25 cellOf
  by_cases h0 : p < 0
  · rw [if_pos h0, if_pos h0]
  · rw [if_neg h0, if_neg h0]
    obtain ⟨n, hn, rfl⟩ := q_of h0
    simp (disch := omega) only [l3, l100, l36, q_div, pk_mul, q_sub, q_le, q_lt, q_cl, nI_add]
    by_cases h1 : 3 ≤ n / 100
    · rw [if_pos h1, if_neg (by omega)]
    · rw [if_neg h1]
      by_cases h2 : n % 100 < 36
      · rw [if_neg (by omega), if_pos ⟨by omega, h2⟩]
      · rw [if_pos (by omega), if_neg (by omega)]
theorem sp5 {p : Int32} {j : Nat} (h : cellOf p = some j) : fX5_spot p = some (nI j) ∧ p / (100 : Int32) = nI (j / 36) := by
  unfold cellOf at h
  by_cases h0 : p < 0
  · rw [if_pos h0] at h; cases h
  · rw [if_neg h0] at h
    obtain ⟨n, hn, rfl⟩ := q_of h0
    rw [q_cl hn] at h
    by_cases h1 : n / 100 < 3 ∧ n % 100 < 36
    · rw [if_pos h1] at h; cases h
      unfold fX5_spot
      simp (disch := omega) only [l3, l100, l36, q_div, pk_mul, q_sub, q_le, q_lt, q_cl, nI_add]
      exact ⟨congrArg (fun z => some (nI z)) (by omega), congrArg nI (by omega)⟩
    · rw [if_neg h1] at h; cases h
theorem in5 (p a b : Int32) : fX5_in p a b = some (if p < a ∨ b < p then 0 else 1) := by
  unfold fX5_in fX5_in_14
  by_cases h0 : p < a
  · rw [if_pos h0, if_pos (Or.inl h0)]
  · rw [if_neg h0]
    by_cases h1 : b < p
    · rw [if_pos h1, if_pos (Or.inr h1)]
    · rw [if_neg h1, if_neg (fun h => h.elim h0 h1)]
theorem ip5 (p : Int32) : fX5_isPlate p = some (if p < 0 ∨ 2 < p then 0 else 1) := by
  unfold fX5_isPlate
  rw [in5]
  show (if (if p < 0 ∨ 2 < p then (0 : Int32) else 1) &&& 1 = (if p < 0 ∨ 2 < p then 0 else 1) then some (if p < 0 ∨ 2 < p then (0 : Int32) else 1) else none) = _
  by_cases h : p < 0 ∨ 2 < p
  · rw [if_pos h]; rfl
  · rw [if_neg h]; rfl
theorem ip4 (p : Int32) : fX4_isPlate p = some (if p < 0 ∨ 2 < p then 0 else 1) := by
  unfold fX4_isPlate fX4_isPlate_13
  by_cases h0 : p < 0
  · rw [if_pos h0, if_pos (Or.inl h0)]
  · rw [if_neg h0]
    have e : ((3 : Int32) ≤ p) = (2 < p) := by
      obtain ⟨n, hn, rfl⟩ := q_of h0
      rw [l3, l2, q_le (by omega) hn, q_lt (by omega) hn]
      exact propext ⟨fun h => by omega, fun h => by omega⟩
    by_cases h1 : 2 < p
    · rw [if_pos (by rw [e]; exact h1), if_pos (Or.inr h1)]
    · rw [if_neg (by rw [e]; exact h1), if_neg (fun h => h.elim h0 h1)]
theorem pl_of {p : Int32} (h : ¬ (p < 0 ∨ 2 < p)) : ∃ k : Nat, k < 3 ∧ p = nI k := by
  have h0 : ¬ p < 0 := fun h1 => h (Or.inl h1)
  obtain ⟨n, hn, rfl⟩ := q_of h0
  refine ⟨n, ?_, rfl⟩
  have h2 : ¬ (2 : Int32) < nI n := fun h1 => h (Or.inr h1)
  rw [l2, q_lt (by omega) hn] at h2
  omega
theorem rg_of {p a : Int32} {m : Nat} (hm : m < 2147483648) (ha : a = nI m) (h : ¬ (p < 0 ∨ a < p)) : ∃ k : Nat, k ≤ m ∧ p = nI k := by
  subst ha
  have h0 : ¬ p < 0 := fun h1 => h (Or.inl h1)
  obtain ⟨n, hn, rfl⟩ := q_of h0
  refine ⟨n, ?_, rfl⟩
  have h2 : ¬ nI m < nI n := fun h1 => h (Or.inr h1)
  rw [q_lt (by omega) hn] at h2
  omega
/-! findings -/
theorem fd1 (F : Nat → Int32) : fX4_finding F (-1000001) = some (-1000001, upd F 1 (F 1 + 1)) := rfl
theorem fd2 (F : Nat → Int32) : fX4_finding F (-1000002) = some (-1000002, upd F 2 (F 2 + 1)) := rfl
theorem fd3 (F : Nat → Int32) : fX4_finding F (-1000003) = some (-1000003, upd F 3 (F 3 + 1)) := rfl
theorem fd4 (F : Nat → Int32) : fX4_finding F (-1000004) = some (-1000004, upd F 4 (F 4 + 1)) := rfl
theorem fd5 (F : Nat → Int32) : fX4_finding F (-1000005) = some (-1000005, upd F 5 (F 5 + 1)) := rfl
theorem fs1 (F : Nat → Int32) : fX5_finds F 1 = some (-1000001, upd F 1 (F 1 + 1)) := rfl
theorem fs2 (F : Nat → Int32) : fX5_finds F 2 = some (-1000002, upd F 2 (F 2 + 1)) := rfl
theorem fs3 (F : Nat → Int32) : fX5_finds F 3 = some (-1000003, upd F 3 (F 3 + 1)) := rfl
theorem fs4 (F : Nat → Int32) : fX5_finds F 4 = some (-1000004, upd F 4 (F 4 + 1)) := rfl
theorem fs5 (F : Nat → Int32) : fX5_finds F 5 = some (-1000005, upd F 5 (F 5 + 1)) := rfl
/-- two rows agree on the first n places -/
def Eqn (n : Nat) (f g : Nat → Int32) : Prop := ∀ i, i < n → g i = f i
theorem Eqn.up {n : Nat} {f g : Nat → Int32} (h : Eqn n f g) (j : Nat) (x : Int32) : Eqn n (upd f j x) (upd g j x) := fun i hi => by
  by_cases e : i = j
  · rw [e, up_at, up_at]
  · rw [up_ne _ _ e, up_ne _ _ e]; exact h i hi
theorem Eqn.fnd {f g : Nat → Int32} (h : Eqn 6 f g) {j : Nat} (hj : j < 6) : Eqn 6 (upd f j (f j + 1)) (upd g j (g j + 1)) := by
  rw [h j hj]
  exact h.up j _
