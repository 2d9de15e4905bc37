/-! wishes that come -/
def anyS (sp : Nat → Int32) (c : Int32) (i : Nat) : Nat → Bool
  | 0 => false
  | m + 1 => decide (sp i = c) || anyS sp c (i + 1) m
theorem anyS_congr {sp sp' : Nat → Int32} (c : Int32) : ∀ (m i : Nat), (∀ j, i ≤ j → j < i + m → sp' j = sp j) → anyS sp' c i m = anyS sp c i m
  | 0, _, _ => rfl
  | m + 1, i, h => by rw [anyS, anyS, h i (Nat.le_refl _) (by omega), anyS_congr c m (i + 1) (fun j h1 h2 => h j (by omega) (by omega))]
theorem hs4 (sp : Nat → Int32) (c : Int32) {w : Nat} (hw : w ≤ 8) : ∀ (m n i : Nat), i + m = w → m < n → fX3_hasSpot_2 sp (nI w) c n (nI i) = some (if anyS sp c i m = true then 1 else 0) := by
  intro m
  induction m with
  | zero =>
    intro n i h1 h2
    obtain ⟨n, rfl⟩ := n_suc h2
    rw [fX3_hasSpot_2, if_pos (by rw [q_le (by omega) (by omega)]; omega)]
    rfl
  | succ m ih =>
    intro n i h1 h2
    obtain ⟨n, rfl⟩ := n_suc h2
    rw [fX3_hasSpot_2, if_neg (by rw [q_le (by omega) (by omega)]; omega), if_pos (by rw [q_inb (by omega)]; omega), q_cl (by omega), nx, ih n (i + 1) (by omega) (by omega), anyS]
    by_cases h0 : sp i = c
    · simp [h0]
    · simp [h0]
theorem ws5 (wc wt Fo : Nat → Int32) (q c : Int32) {w : Nat} (hw : w ≤ 8) : ∀ (m n i : Nat) (b : Bool), i + m = w → m < n → fX5_wish_70 (nI w) wc wt Fo q c n (if b = true then 1 else 0) (nI i) = fX5_wish_108 (nI w) wc wt Fo q c (if (b || anyS wc c i m) = true then 1 else 0) := by
  intro m
  induction m with
  | zero =>
    intro n i b h1 h2
    obtain ⟨n, rfl⟩ := n_suc h2
    rw [fX5_wish_70, if_pos (by rw [q_le (by omega) (by omega)]; omega), anyS, Bool.or_false]
  | succ m ih =>
    intro n i b h1 h2
    obtain ⟨n, rfl⟩ := n_suc h2
    rw [fX5_wish_70, if_neg (by rw [q_le (by omega) (by omega)]; omega)]
    unfold fX5_wish_95 fX5_wish_100
    rw [q_cl (by omega), nx, anyS]
    have i1 := ih n (i + 1) true (by omega) (by omega)
    have i0 := ih n (i + 1) false (by omega) (by omega)
    simp only [if_true, Bool.true_or, Bool.false_or, if_false, Bool.false_eq_true] at i1 i0
    cases b with
    | true =>
      rw [if_neg (by decide)]
      simp only [if_true, Bool.true_or]
      exact i1
    | false =>
      rw [if_pos (by decide), if_pos (by rw [q_inb (by omega)]; omega)]
      by_cases h0 : wc i = c
      · rw [if_pos h0]
        simp only [h0, decide_true, Bool.true_or, Bool.or_true, if_true]
        exact i1
      · rw [if_neg h0]
        simp only [h0, decide_false, Bool.false_or]
        exact i0
section OPS4
variable {K D L S : Nat → Int32} {sf : Nat → Option Nat} {T : Nat → Nat → Nat → Int32} {G De Li St Ke F Fo : Nat → Int32}
theorem op_wish (hP : InvP K D L S sf T G De Li St Ke) {sp to : Nat → Int32} {sz : Int32} {wc wt : Nat → Int32} {w : Int32} (hW : InvW sp to sz wc wt w) (hF : InvF F Fo) (p q : Int32) : ∃ u v, fX4_wish S sp to sz F p q = some u ∧ fX5_wish St w wc wt Fo p q = some v ∧ v.1 = u.1 ∧ InvW u.2.1 u.2.2.1 u.2.2.2.1 v.2.2.1 v.2.2.2.1 v.2.1 ∧ InvF u.2.2.2.2 v.2.2.2.2 := by
  obtain ⟨rfl, n, pl, rfl, hn, hpl, hw⟩ := id hW
  unfold fX4_wish fX5_wish fX4_wish_16 fX5_wish_17
  rw [sp4, ic5, it4, in5, fd1, fs1]
  cases hc : cellOf p with
  | none => exact ⟨_, _, rfl, rfl, rfl, hW, hF.fnd (by decide)⟩
  | some j =>
    have hj := cellOf_lt hc
    simp only [Option.bind_some]
    rw [if_neg (q_neg (by omega)), if_neg c10]
    by_cases hq : q < 0 ∨ 15 < q
    · rw [if_pos hq, if_pos c00, if_pos c00]
      exact ⟨_, _, rfl, rfl, rfl, hW, hF.fnd (by decide)⟩
    · rw [if_neg hq, if_neg c10, if_neg c10, (sp5 hc).1]
      obtain ⟨t, ht, rfl⟩ := rg_of (m := 15) (by omega) rfl hq
      simp only [Option.bind_some]
      rw [if_pos (show inb (nI j) 108 = true by rw [q_inb (by omega)]; exact hj), if_pos (show inb (nI j) 648 = true by rw [q_inb (by omega)]; omega), q_cl (by omega), (hP.at hj).2.2.2.2]
      -- the reference's loop, whatever it begins with
      have lp : ∀ b : Bool, fX5_wish_65 (nI n) wc wt Fo (nI t) (nI j) (if b = true then 1 else 0) = fX5_wish_108 (nI n) wc wt Fo (nI t) (nI j) (if (b || anyS sp (nI j) 0 n) = true then 1 else 0) := fun b => by
        unfold fX5_wish_65
        rw [l0]
        have h9 := ws5 wc wt Fo (nI t) (nI j) hn n 100000 0 b (by omega) (by omega)
        rw [anyS_congr (sp := sp) (nI j) n 0 (fun k h1 h2 => (hw k (by omega)).1)] at h9
        exact h9
      have l1' : fX5_wish_60 (nI n) wc wt Fo (nI t) (nI j) = some (-1000003, nI n, wc, wt, upd Fo 3 (Fo 3 + 1)) := by
        unfold fX5_wish_60
        have h9 := lp true
        simp only [if_true, Bool.true_or] at h9
        rw [h9]
        unfold fX5_wish_108
        rw [if_neg c10, fs3]
        rfl
      have bad : fX4_wish_57 sp to (nI n) F = some (-1000003, sp, to, nI n, upd F 3 (F 3 + 1)) := by
        unfold fX4_wish_57
        rw [fd3]
        rfl
      rw [l1', bad]
      by_cases h0 : S j = 0
      · rw [if_pos h0, if_pos h0]
        have fin : n = 0 ∨ j / 36 = pl → ∃ u v, ((fX3_hasSpot sp (nI n) (nI j)).bind fun u16 => if u16 = 0 then (if nI n < (8 : Int32) then ((fX3_addWish sp to (nI n) (nI j) (nI t)).bind fun u20 => some (u20.2.2, u20.1, u20.2.1, u20.2.2, F)) else ((fX4_finding F (-1000004 : Int32)).bind fun u22 => some (u22.1, sp, to, nI n, u22.2))) else some (-1000003, sp, to, nI n, upd F 3 (F 3 + 1))) = some u ∧ fX5_wish_64 (nI n) wc wt Fo (nI t) (nI j) = some v ∧ v.1 = u.1 ∧ InvW u.2.1 u.2.2.1 u.2.2.2.1 v.2.2.1 v.2.2.2.1 v.2.1 ∧ InvF u.2.2.2.2 v.2.2.2.2 := by
          intro hpp
          unfold fX5_wish_64
          have h9 := lp false
          simp only [if_false, Bool.false_or, Bool.false_eq_true] at h9
          have h7 : fX3_hasSpot sp (nI n) (nI j) = some (if anyS sp (nI j) 0 n = true then 1 else 0) := hs4 sp (nI j) hn n 100000 0 (by omega) (by omega)
          rw [h9, h7]
          simp only [Option.bind_some]
          unfold fX5_wish_108
          rw [fd4, fs4, fs3]
          by_cases ha : anyS sp (nI j) 0 n = true
          · rw [if_pos ha, if_neg c10, if_neg c10]
            exact ⟨_, _, rfl, rfl, rfl, hW, hF.fnd (by decide)⟩
          · rw [if_neg ha, if_pos c00, if_pos c00]
            unfold fX3_addWish
            simp (disch := omega) only [Option.bind_some, q_inb, q_cl, l8, q_lt, q_eq, nx]
            by_cases h8 : n = 8
            · rw [if_neg (show ¬ n < 8 by omega), if_pos h8]
              exact ⟨_, _, rfl, rfl, rfl, hW, hF.fnd (by decide)⟩
            · rw [if_pos (show n < 8 by omega), if_pos (show n < 8 by omega), if_neg h8, if_pos (show n < 8 by omega)]
              refine ⟨_, _, rfl, rfl, rfl, ⟨rfl, n + 1, j / 36, rfl, by omega, by omega, fun i hi => ?_⟩, hF⟩
              show upd wc n (nI j) i = upd sp n (nI j) i ∧ upd wt n (nI t) i = upd to n (nI t) i ∧ ∃ c x : Nat, upd sp n (nI j) i = nI c ∧ c / 36 = j / 36 ∧ upd to n (nI t) i = nI x ∧ x ≤ 15
              by_cases e : i = n
              · simp only [e, up_at]
                exact ⟨trivial, trivial, j, t, rfl, rfl, rfl, ht⟩
              · simp only [up_ne _ _ e]
                obtain ⟨w1, w2, c, x, w4, w5, w6⟩ := hw i (by omega)
                exact ⟨w1, w2, c, x, w4, by omega, w6⟩
        unfold fX3_isOfSamePlate fX3_isOfSamePlate_23
        rw [show ((0 : Int32).toNatClampNeg) = 0 from rfl, if_pos in08, if_pos in08]
        by_cases hz : n = 0
        · rw [if_pos (show nI n = 0 by rw [hz]; rfl), if_pos (show nI n ≤ 0 by rw [hz]; decide)]
          simp only [Option.bind_some]
          rw [if_neg c10]
          exact fin (Or.inl hz)
        · rw [if_neg (show ¬ nI n = 0 by rw [l0, q_eq (by omega) (by omega)]; exact hz), if_neg (show ¬ nI n ≤ 0 by rw [l0, q_le (by omega) (by omega)]; omega)]
          obtain ⟨w1, w2, c, x, w4, w5, w6⟩ := hw 0 (by omega)
          rw [w1, w4, l36, q_div (by omega) (by omega) (by omega), q_div (by omega) (by omega) (by omega)]
          by_cases h2 : c / 36 = j / 36
          · rw [if_pos (congrArg nI h2), if_pos (congrArg nI h2)]
            simp only [Option.bind_some]
            rw [if_neg c10]
            exact fin (Or.inr (by omega))
          · rw [if_neg (fun h => h2 (q_inj (by omega) (by omega) h)), if_neg (fun h => h2 (q_inj (by omega) (by omega) h))]
            exact ⟨_, _, rfl, rfl, rfl, hW, hF.fnd (by decide)⟩
      · rw [if_neg h0, if_neg h0]
        exact ⟨_, _, rfl, rfl, rfl, hW, hF.fnd (by decide)⟩
/-! scraping -/
def scn : Nat → Nat → Nat
  | 0, d => d
  | n + 1, d => scn n (d - d / 10 - 1)
theorem scn_0 : ∀ n, scn n 0 = 0
  | 0 => rfl
  | n + 1 => scn_0 n
theorem scn_le : ∀ n d, scn n d ≤ d
  | 0, d => Nat.le_refl d
  | n + 1, d => by rw [scn]; have := scn_le n (d - d / 10 - 1); omega
theorem up_up (f : Nat → Int32) (j : Nat) (x y : Int32) : upd (upd f j x) j y = upd f j y := by
  funext i
  by_cases e : i = j
  · rw [e, up_at, up_at]
  · rw [up_ne _ _ e, up_ne _ _ e, up_ne _ _ e]
theorem sc4 (D : Nat → Int32) {j N : Nat} (hj : j < 108) (hN : N ≤ 100) : ∀ (m n i d : Nat), i + m = N → m < n → d ≤ 9999 → fX1_scrapeCell_10 D (nI j) (nI N) n (nI d) (nI i) = some (upd D j (nI (scn m d))) := by
  intro m
  induction m with
  | zero =>
    intro n i d h1 h2 h3
    obtain ⟨n, rfl⟩ := n_suc h2
    rw [fX1_scrapeCell_10, if_pos (by rw [q_le (by omega) (by omega)]; omega)]
    unfold fX1_scrapeCell_39
    rw [q_cl (by omega)]
    rfl
  | succ m ih =>
    intro n i d h1 h2 h3
    obtain ⟨n, rfl⟩ := n_suc h2
    rw [fX1_scrapeCell_10, if_neg (by rw [q_le (by omega) (by omega)]; omega)]
    by_cases h0 : d = 0
    · rw [if_pos (by rw [l0, q_le (by omega) (by omega)]; omega)]
      unfold fX1_scrapeCell_39
      rw [q_cl (by omega), h0, scn_0]
    · rw [if_neg (by rw [l0, q_le (by omega) (by omega)]; omega)]
      have e : (if (0 : Int32) < nI d - nI d / (10 : Int32) - (1 : Int32) then nI d - nI d / (10 : Int32) - (1 : Int32) else (0 : Int32)) = nI (d - d / 10 - 1) := by
        rw [l10, l1, q_div (by omega) (by omega) (by omega), q_sub (by omega), q_sub (by omega), l0]
        simp (disch := omega) only [q_lt]
        by_cases h5 : 0 < d - d / 10 - 1
        · rw [if_pos h5]
        · rw [if_neg h5]; exact congrArg nI (by omega)
      rw [e, nx, ih n (i + 1) _ (by omega) (by omega) (by omega), scn]
theorem sc5 (Fo : Nat → Int32) {j N : Nat} (hj : j < 108) (hN : N ≤ 100) : ∀ (m n i d : Nat) (De : Nat → Int32), i + m = N → m < n → d ≤ 9999 → De j = nI d → fX5_scrape_31 Fo (nI N) (nI j) n (nI i) De = some (nI (scn m d), upd De j (nI (scn m d)), Fo) := by
  intro m
  induction m with
  | zero =>
    intro n i d De h1 h2 h3 h4
    obtain ⟨n, rfl⟩ := n_suc h2
    rw [fX5_scrape_31, if_pos (by rw [q_le (by omega) (by omega)]; omega), if_pos (by rw [q_inb (by omega)]; omega), q_cl (by omega), h4, scn, ← h4, up_same]
  | succ m ih =>
    intro n i d De h1 h2 h3 h4
    obtain ⟨n, rfl⟩ := n_suc h2
    rw [fX5_scrape_31, if_neg (by rw [q_le (by omega) (by omega)]; omega), if_pos (by rw [q_inb (by omega)]; omega), q_cl (by omega), h4]
    unfold fX5_scrape_73
    rw [q_cl (by omega), nx]
    by_cases h0 : d = 0
    · have i0 := ih n (i + 1) 0 (upd De j 0) (by omega) (by omega) (by omega) (up_at _ _ _)
      rw [if_neg (by rw [h0]; decide), i0, up_up, h0, scn]
    · have e : nI d - nI d / (10 : Int32) - (1 : Int32) = nI (d - d / 10 - 1) := by
        rw [l10, l1, q_div (by omega) (by omega) (by omega), q_sub (by omega), q_sub (by omega)]
      rw [e, if_pos (nI_pos' (by omega)), ih n (i + 1) _ _ (by omega) (by omega) (by omega) (up_at _ _ _), up_up, scn]
theorem op_scrape (hP : InvP K D L S sf T G De Li St Ke) (hF : InvF F Fo) (p q : Int32) : ∃ u v, fX4_scrape D F p q = some u ∧ fX5_scrape De Fo p q = some v ∧ v.1 = u.1 ∧ InvP K u.2.1 L S sf T G v.2.1 Li St Ke ∧ InvF u.2.2 v.2.2 := by
  unfold fX4_scrape fX5_scrape fX4_scrape_20 fX5_scrape_17
  rw [sp4, ic5, in5, fd1, fs1]
  cases hc : cellOf p with
  | none => exact ⟨_, _, rfl, rfl, rfl, hP, hF.fnd (by decide)⟩
  | some j =>
    have hj := cellOf_lt hc
    simp only [Option.bind_some]
    rw [if_neg (q_neg (by omega)), if_neg c10]
    by_cases h1 : q < 1 ∨ 100 < q
    · rw [if_pos h1, if_pos c00]
      by_cases h2 : q < 1
      · rw [if_pos h2]; exact ⟨_, _, rfl, rfl, rfl, hP, hF.fnd (by decide)⟩
      · rw [if_neg h2, if_neg (by rw [i32_nle]; exact h1.resolve_left h2)]; exact ⟨_, _, rfl, rfl, rfl, hP, hF.fnd (by decide)⟩
    · rw [if_neg h1, if_neg c10, if_neg (fun h => h1 (Or.inl h)), if_pos (i32_nlt.mp (fun h => h1 (Or.inr h))), (sp5 hc).1]
      have h3 : ¬ (q < 0 ∨ 100 < q) := fun h => h.elim (fun h => h1 (Or.inl (Int32.lt_trans h (by decide)))) (fun h => h1 (Or.inr h))
      obtain ⟨N, hN, rfl⟩ := rg_of (m := 100) (by omega) rfl h3
      obtain ⟨⟨kn, dn, ln, sn, hk, hd, hl, hs, b1, b2, b3, b4, b5⟩, e1, e2, e3, e4⟩ := hP.at hj
      unfold fX1_scrapeCell
      have hi9 : inb (nI j) 108 = true := by rw [q_inb (by omega)]; exact hj
      rw [if_pos hi9, q_cl (by omega), hd, l0, sc4 D hj hN N 100000 0 dn (by omega) (by omega) b2]
      simp only [Option.bind_some]
      rw [if_pos hi9, sc5 Fo hj hN N 100000 0 dn De (by omega) (by omega) b2 (e2.trans hd), up_at]
      refine ⟨_, _, rfl, rfl, rfl, ?_, hF⟩
      have h9 := hP.one hj (k := K j) (d := nI (scn N dn)) (l := L j) (s := S j) ⟨kn, scn N dn, ln, sn, hk, rfl, hl, hs, b1, Nat.le_trans (scn_le N dn) b2, b3, b4, b5⟩
      rw [up_same, up_same, up_same] at h9
      rw [show upd G j (K j) = G by rw [← e1, up_same], show upd Li j (L j) = Li by rw [← e3, up_same], show upd St j (S j) = St by rw [← e4, up_same]] at h9
      exact h9
end OPS4
