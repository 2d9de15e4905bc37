theorem c10 : ¬ (1 : Int32) = 0 := by decide
theorem c00 : (0 : Int32) = 0 := rfl
/-! what the class's cells and the reference's have to do with each other -/
def cellOk (k d l s : Int32) : Prop := ∃ kn dn ln sn : Nat, k = nI kn ∧ d = nI dn ∧ l = nI ln ∧ s = nI sn ∧ kn ≤ 2 ∧ dn ≤ 9999 ∧ ln ≤ 60 ∧ sn ≤ 1 ∧ (kn ≠ 2 → ln = 0)
def InvC (K D L S G De Li St : Nat → Int32) (o : Nat) : Prop := ∀ i, i < 108 → cellOk (K i) (D i) (L i) (S i) ∧ G (o + i) = K i ∧ De (o + i) = D i ∧ Li (o + i) = L i ∧ St (o + i) = S i
def InvP (K D L S : Nat → Int32) (sf : Nat → Option Nat) (T : Nat → Nat → Nat → Int32) (G De Li St Ke : Nat → Int32) : Prop :=
  InvC K D L S G De Li St 0 ∧ ∀ k, k < 4 → (sf k = none ∧ Ke k = 0) ∨ (sf k ≠ none ∧ Ke k = 1 ∧ InvC (T k 0) (T k 1) (T k 2) (T k 3) G De Li St (108 + 108 * k))
def InvB (st he ms mh : Int32) : Prop := ms = st ∧ mh = he ∧ ∃ a b : Nat, st = nI a ∧ he = nI b ∧ 1 ≤ a ∧ a ≤ 9 ∧ b ≤ 4
def InvW (sp to : Nat → Int32) (sz : Int32) (wc wt : Nat → Int32) (w : Int32) : Prop := w = sz ∧ ∃ n pl : Nat, sz = nI n ∧ n ≤ 8 ∧ pl < 3 ∧ ∀ i, i < n → wc i = sp i ∧ wt i = to i ∧ ∃ c t : Nat, sp i = nI c ∧ c / 36 = pl ∧ to i = nI t ∧ t ≤ 15
def InvR (dn ri st : Nat → Int32) (pu : Int32) (mdn mri mst : Nat → Int32) (mpu : Int32) : Prop := mpu = pu ∧ ∀ i, i < 3 → mdn i = dn i ∧ mri i = ri i ∧ mst i = st i ∧ ∃ z : Nat, st i = nI z ∧ z ≤ 100
def InvG (sp lo hi : Nat → Int32) (sz : Int32) (gc gl gh : Nat → Int32) (g : Int32) : Prop := g = sz ∧ ∃ n pl : Nat, sz = nI n ∧ n ≤ 8 ∧ pl < 3 ∧ ∀ i, i < n → gc i = sp i ∧ gl i = lo i ∧ gh i = hi i ∧ ∃ c a b : Nat, sp i = nI c ∧ c / 36 = pl ∧ lo i = nI a ∧ hi i = nI b ∧ a ≤ b ∧ b ≤ 15
def InvN (nu : Nat → Int32) (wa : Int32) (to : Nat → Int32) (mw : Int32) : Prop := mw = wa ∧ ∃ n : Nat, wa = nI n ∧ n ≤ 36 ∧ ∀ i, i < n → to i = nu i
def InvF (F Fo : Nat → Int32) : Prop := Eqn 6 F Fo
theorem InvF.fnd {F Fo : Nat → Int32} (h : InvF F Fo) {j : Nat} (hj : j < 6) : InvF (upd F j (F j + 1)) (upd Fo j (Fo j + 1)) := Eqn.fnd h hj
theorem InvC.keep {K D L S G De Li St G' De' Li' St' : Nat → Int32} {o : Nat} (h : InvC K D L S G De Li St o) (e : ∀ i, i < 108 → G' (o + i) = G (o + i) ∧ De' (o + i) = De (o + i) ∧ Li' (o + i) = Li (o + i) ∧ St' (o + i) = St (o + i)) : InvC K D L S G' De' Li' St' o := fun i hi => by
  obtain ⟨a, b, c, d, f⟩ := h i hi
  obtain ⟨b', c', d', f'⟩ := e i hi
  exact ⟨a, b'.trans b, c'.trans c, d'.trans d, f'.trans f⟩
/-- the main cells anew, the states as they were -/
theorem InvP.main {K D L S K' D' L' S' : Nat → Int32} {sf : Nat → Option Nat} {T : Nat → Nat → Nat → Int32} {G De Li St Ke G' De' Li' St' : Nat → Int32} (h : InvP K D L S sf T G De Li St Ke) (h1 : InvC K' D' L' S' G' De' Li' St' 0) (h2 : ∀ i, 108 ≤ i → i < 540 → G' i = G i ∧ De' i = De i ∧ Li' i = Li i ∧ St' i = St i) : InvP K' D' L' S' sf T G' De' Li' St' Ke :=
  ⟨h1, fun k hk => (h.2 k hk).imp id (fun ⟨a, b, c⟩ => ⟨a, b, c.keep (fun i hi => h2 _ (by omega) (by omega))⟩)⟩
theorem InvP.at {K D L S : Nat → Int32} {sf : Nat → Option Nat} {T : Nat → Nat → Nat → Int32} {G De Li St Ke : Nat → Int32} (h : InvP K D L S sf T G De Li St Ke) {i : Nat} (hi : i < 108) : cellOk (K i) (D i) (L i) (S i) ∧ G i = K i ∧ De i = D i ∧ Li i = L i ∧ St i = S i := by
  have h1 := h.1 i hi
  simp only [Nat.zero_add] at h1
  exact h1
/-- one cell anew -/
theorem InvP.one {K D L S : Nat → Int32} {sf : Nat → Option Nat} {T : Nat → Nat → Nat → Int32} {G De Li St Ke : Nat → Int32} (h : InvP K D L S sf T G De Li St Ke) {j : Nat} (hj : j < 108) {k d l s : Int32} (hk : cellOk k d l s) : InvP (upd K j k) (upd D j d) (upd L j l) (upd S j s) sf T (upd G j k) (upd De j d) (upd Li j l) (upd St j s) Ke := by
  refine h.main (fun i hi => ?_) (fun i h1 h2 => ?_)
  · simp only [Nat.zero_add]
    by_cases e : i = j
    · subst e
      simp only [up_at]
      exact ⟨hk, trivial, trivial, trivial, trivial⟩
    · simp only [up_ne _ _ e]
      exact h.at hi
  · have e : i ≠ j := by omega
    simp only [up_ne _ _ e]
    exact ⟨trivial, trivial, trivial, trivial⟩
theorem ik4 (p : Int32) : fX4_isKind p = some (if p < 0 ∨ 2 < p then 0 else 1) := by
  unfold fX4_isKind fX4_isKind_13
  by_cases h0 : p < 0
  · rw [if_pos h0, if_pos (Or.inl h0)]
  · rw [if_neg h0]
    by_cases h1 : 2 < p
    · rw [if_pos h1, if_pos (Or.inr h1)]
    · rw [if_neg h1, if_neg (fun h => h.elim h0 h1)]
theorem it4 (p : Int32) : fX4_isTone p = some (if p < 0 ∨ 15 < p then 0 else 1) := by
  unfold fX4_isTone fX4_isTone_14
  by_cases h0 : p < 0
  · rw [if_pos h0, if_pos (Or.inl h0)]
  · rw [if_neg h0]
    by_cases h1 : 15 < p
    · rw [if_pos h1, if_pos (Or.inr h1)]
    · rw [if_neg h1, if_neg (fun h => h.elim h0 h1)]
theorem is4 (p : Int32) : fX4_isState p = some (if p < 0 ∨ 3 < p then 0 else 1) := by
  unfold fX4_isState fX4_isState_13
  by_cases h0 : p < 0
  · rw [if_pos h0, if_pos (Or.inl h0)]
  · rw [if_neg h0]
    have e : ((4 : Int32) ≤ p) = (3 < p) := by
      obtain ⟨n, hn, rfl⟩ := q_of h0
      rw [l4, l3, q_le (by omega) hn, q_lt (by omega) hn]
      exact propext ⟨fun h => by omega, fun h => by omega⟩
    by_cases h1 : 3 < p
    · rw [if_pos (by rw [e]; exact h1), if_pos (Or.inr h1)]
    · rw [if_neg (by rw [e]; exact h1), if_neg (fun h => h.elim h0 h1)]
theorem iw4 (p : Int32) : fX4_isSwitch p = some (if p < 0 ∨ 1 < p then 0 else 1) := by
  unfold fX4_isSwitch fX4_isSwitch_9
  by_cases h : p < 0 ∨ 1 < p
  · have e0 : ¬ p = 0 := fun e => by subst e; revert h; decide
    have e1 : ¬ p = 1 := fun e => by subst e; revert h; decide
    rw [if_neg e0, if_neg e1, if_pos h]
  · rw [if_neg h]
    obtain ⟨k, hk, rfl⟩ := rg_of (m := 1) (by omega) rfl h
    rcases (show k = 0 ∨ k = 1 by omega) with rfl | rfl
    · rfl
    · rfl
/-! the plain acts -/
section OPS1
variable {K D L S : Nat → Int32} {sf : Nat → Option Nat} {T : Nat → Nat → Nat → Int32} {G De Li St Ke F Fo : Nat → Int32}
theorem op_ground (hP : InvP K D L S sf T G De Li St Ke) (hF : InvF F Fo) (p q : Int32) : ∃ u v, fX4_ground K L F p q = some u ∧ fX5_ground G Li Fo p q = some v ∧ v.1 = u.1 ∧ InvP u.2.1 D u.2.2.1 S sf T v.2.1 De v.2.2.1 St Ke ∧ InvF u.2.2.2 v.2.2.2 := by
  unfold fX4_ground fX5_ground fX4_ground_16 fX5_ground_16
  rw [sp4, ic5, fd1, fs1]
  cases hc : cellOf p with
  | none => exact ⟨_, _, rfl, rfl, rfl, hP, hF.fnd (by decide)⟩
  | some j =>
    have hj := cellOf_lt hc
    simp only [Option.bind_some]
    rw [if_neg (q_neg (by omega)), if_neg c10, ik4, in5, (sp5 hc).1]
    simp only [Option.bind_some]
    by_cases hq : q < 0 ∨ 2 < q
    · rw [if_pos hq, if_pos c00, if_pos c00]
      exact ⟨_, _, rfl, rfl, rfl, hP, hF.fnd (by decide)⟩
    · rw [if_neg hq, if_neg c10, if_neg c10]
      obtain ⟨n, hn, rfl⟩ := rg_of (m := 2) (by omega) rfl hq
      unfold fX1_layGround fX1_layGround_23 fX5_ground_58
      simp (disch := omega) only [q_inb, q_cl, l2, q_eq]
      rw [if_pos hj, if_pos hj, if_pos (show j < 648 by omega)]
      obtain ⟨⟨kn, dn, ln, sn, hk, hd, hl, hs, b1, b2, b3, b4, b5⟩, e1, e2, e3, e4⟩ := hP.at hj
      by_cases h2 : n = 2
      · rw [if_pos h2, if_pos h2]
        refine ⟨_, _, rfl, rfl, e1, ?_, hF⟩
        have h9 := hP.one hj (k := nI n) (d := D j) (l := nI 60) (s := S j) ⟨n, dn, 60, sn, rfl, hd, rfl, hs, by omega, b2, by omega, b4, by omega⟩
        rw [up_same, up_same] at h9
        rw [show upd De j (D j) = De by rw [← e2, up_same], show upd St j (S j) = St by rw [← e4, up_same]] at h9
        exact h9
      · rw [if_neg h2, if_neg h2]
        refine ⟨_, _, rfl, rfl, e1, ?_, hF⟩
        have h9 := hP.one hj (k := nI n) (d := D j) (l := nI 0) (s := S j) ⟨n, dn, 0, sn, rfl, hd, rfl, hs, by omega, b2, by omega, b4, by omega⟩
        rw [up_same, up_same] at h9
        rw [show upd De j (D j) = De by rw [← e2, up_same], show upd St j (S j) = St by rw [← e4, up_same]] at h9
        exact h9
/-- how many times a cell bites -/
def tms (k l : Nat) : Nat := if k = 1 then 2 else if k = 2 then (if l = 0 then 0 else 3) else 1
theorem tm4 (K L : Nat → Int32) {j k l : Nat} (hj : j < 108) (hk : K j = nI k) (hl : L j = nI l) (bk : k ≤ 2) (bl : l ≤ 60) : fX1_timesBite K L (nI j) = some (nI (tms k l)) := by
  unfold fX1_timesBite tms
  simp (disch := omega) only [q_inb, q_cl, hk, hl, l0, l1, l2, l3, q_eq, q_le]
  rw [if_pos hj]
  by_cases h1 : k = 1
  · rw [if_pos h1, if_pos h1]
  · rw [if_neg h1, if_neg h1]
    by_cases h2 : k = 2
    · rw [if_pos h2, if_pos h2]
      by_cases h3 : l = 0
      · rw [if_pos (by omega), if_pos h3]
      · rw [if_neg (by omega), if_neg h3]
    · rw [if_neg h2, if_neg h2]
theorem tm5 (G Li : Nat → Int32) {j k l : Nat} (hj : j < 648) (hk : G j = nI k) (hl : Li j = nI l) (bk : k ≤ 2) (bl : l ≤ 60) : fX5_times G Li (nI j) = some (nI (tms k l)) := by
  unfold fX5_times tms
  simp (disch := omega) only [q_inb, q_cl, hk, hl, l0, l1, l2, l3, q_eq, q_le]
  rw [if_pos hj]
  by_cases h1 : k = 1
  · rw [if_pos h1, if_pos h1]
  · rw [if_neg h1, if_neg h1]
    by_cases h2 : k = 2
    · rw [if_pos h2, if_pos h2]
      by_cases h3 : l = 0
      · rw [if_pos (by omega), if_pos h3]
      · rw [if_neg (by omega), if_neg h3]
    · rw [if_neg h2, if_neg h2]
theorem op_as (hP : InvP K D L S sf T G De Li St Ke) (hF : InvF F Fo) (p q : Int32) : ∃ u v, fX4_as K L F p q = some u ∧ fX5_as G Li Fo p q = some v ∧ v.1 = u.1 ∧ InvF u.2 v.2 := by
  unfold fX4_as fX5_as fX4_as_16 fX5_as_16 fX5_as_41
  rw [sp4, ic5, fd1, fs1, fd5, fs5]
  cases hc : cellOf p with
  | none => exact ⟨_, _, rfl, rfl, rfl, hF.fnd (by decide)⟩
  | some j =>
    have hj := cellOf_lt hc
    simp only [Option.bind_some]
    rw [if_neg (q_neg (by omega)), if_neg c10, ik4, in5, (sp5 hc).1]
    simp only [Option.bind_some]
    by_cases hq : q < 0 ∨ 2 < q
    · rw [if_pos hq, if_pos c00, if_pos c00]
      exact ⟨_, _, rfl, rfl, rfl, hF.fnd (by decide)⟩
    · rw [if_neg hq, if_neg c10, if_neg c10]
      obtain ⟨⟨kn, dn, ln, sn, hk, hd, hl, hs, b1, b2, b3, b4, b5⟩, e1, e2, e3, e4⟩ := hP.at hj
      rw [tm4 K L hj hk hl b1 b3, tm5 G Li (by omega) (e1.trans hk) (e3.trans hl) b1 b3]
      simp (disch := omega) only [q_inb, q_cl, Option.bind_some]
      rw [if_pos hj, if_pos (show j < 648 by omega), e1]
      unfold fX4_isUnder fX4_isUnder_9
      by_cases h0 : q = 0
      · rw [if_pos h0, if_pos h0, ite_self]
        simp only [Option.bind_some]
        rw [if_neg c10]
        exact ⟨_, _, rfl, rfl, rfl, hF⟩
      · rw [if_neg h0, if_neg h0]
        by_cases h1 : K j = q
        · rw [if_pos h1, if_pos h1]
          simp only [Option.bind_some]
          rw [if_neg c10]
          exact ⟨_, _, rfl, rfl, rfl, hF⟩
        · rw [if_neg h1, if_neg h1]
          exact ⟨_, _, rfl, rfl, rfl, hF.fnd (by decide)⟩
theorem op_stop (hP : InvP K D L S sf T G De Li St Ke) (hF : InvF F Fo) (p q : Int32) : ∃ u v, fX4_stop S F p q = some u ∧ fX5_stop St Fo p q = some v ∧ v.1 = u.1 ∧ InvP K D L u.2.1 sf T G De Li v.2.1 Ke ∧ InvF u.2.2 v.2.2 := by
  unfold fX4_stop fX5_stop fX4_stop_16 fX5_stop_16
  rw [sp4, ic5, fd1, fs1]
  cases hc : cellOf p with
  | none => exact ⟨_, _, rfl, rfl, rfl, hP, hF.fnd (by decide)⟩
  | some j =>
    have hj := cellOf_lt hc
    simp only [Option.bind_some]
    rw [if_neg (q_neg (by omega)), if_neg c10, iw4, in5, (sp5 hc).1]
    simp only [Option.bind_some]
    by_cases hq : q < 0 ∨ 1 < q
    · rw [if_pos hq, if_pos c00, if_pos c00]
      exact ⟨_, _, rfl, rfl, rfl, hP, hF.fnd (by decide)⟩
    · rw [if_neg hq, if_neg c10, if_neg c10]
      obtain ⟨⟨kn, dn, ln, sn, hk, hd, hl, hs, b1, b2, b3, b4, b5⟩, e1, e2, e3, e4⟩ := hP.at hj
      simp (disch := omega) only [q_inb, q_cl]
      rw [if_pos hj, if_pos (show j < 648 by omega), e4]
      have key : ∀ x : Int32, x = nI 0 ∨ x = nI 1 → InvP K D L (upd S j x) sf T G De Li (upd St j x) Ke := fun x hx => by
        have h9 := hP.one hj (k := K j) (d := D j) (l := L j) (s := x) (hx.elim (fun e => ⟨kn, dn, ln, 0, hk, hd, hl, e, b1, b2, b3, by omega, b5⟩) (fun e => ⟨kn, dn, ln, 1, hk, hd, hl, e, b1, b2, b3, by omega, b5⟩))
        rw [up_same, up_same, up_same] at h9
        rw [show upd G j (K j) = G by rw [← e1, up_same], show upd De j (D j) = De by rw [← e2, up_same], show upd Li j (L j) = Li by rw [← e3, up_same]] at h9
        exact h9
      unfold fX4_stop_40 fX5_stop_41 fX4_stop_60 fX5_stop_58
      simp (disch := omega) only [q_cl]
      by_cases h0 : S j = 0
      · rw [if_pos h0, if_pos h0]
        by_cases h1 : q = 1
        · rw [if_pos h1, if_pos h1]
          exact ⟨_, _, rfl, rfl, rfl, key _ (Or.inr rfl), hF⟩
        · rw [if_neg h1, if_neg h1]
          exact ⟨_, _, rfl, rfl, rfl, key _ (Or.inl rfl), hF⟩
      · rw [if_neg h0, if_neg h0]
        by_cases h1 : q = 1
        · rw [if_pos h1, if_pos h1]
          exact ⟨_, _, rfl, rfl, rfl, key _ (Or.inr rfl), hF⟩
        · rw [if_neg h1, if_neg h1]
          exact ⟨_, _, rfl, rfl, rfl, key _ (Or.inl rfl), hF⟩
end OPS1
