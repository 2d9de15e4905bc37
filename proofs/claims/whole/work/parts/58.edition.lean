/-! editions -/
theorem tn_mono {d e : Nat} (h : d ≤ e) : tn d ≤ tn e := by
  unfold tn
  have := Nat.div_le_div_right (c := 40) h
  split <;> split <;> omega
theorem hb4 {lo : Nat → Int32} {i a0 : Nat} (hi : i < 8) (ha : lo i = nI a0) (ba : a0 ≤ 15) : ∀ (m fu a e : Nat), a + m = 300 → m < fu → e ≤ 9999 → ∃ N, fX0_pullsHeldBy_43 lo (nI i) fu (nI a) (nI e) = some (nI N) ∧ a ≤ N ∧ N ≤ 300 ∧ ∀ k, a < k → k ≤ 300 → (k ≤ N ↔ a0 ≤ tn (wn (k - a - 1) e)) := by
  intro m
  induction m with
  | zero =>
    intro fu a e h1 h2 h3
    obtain ⟨fu, rfl⟩ := n_suc h2
    rw [fX0_pullsHeldBy_43, if_pos (by rw [l300, q_le (by omega) (by omega)]; omega)]
    exact ⟨a, rfl, Nat.le_refl _, by omega, fun k h1 h2 => by omega⟩
  | succ m ih =>
    intro fu a e h1 h2 h3
    obtain ⟨fu, rfl⟩ := n_suc h2
    have hw := wr_le e
    have ht : tn e ≤ 15 := by unfold tn; split <;> omega
    rw [fX0_pullsHeldBy_43, if_neg (by rw [l300, q_le (by omega) (by omega)]; omega), tn4 h3, wo4 h3, q_cl (by omega), ha]
    simp only [Option.bind_some]
    by_cases h : tn e < a0
    · rw [if_pos (by rw [q_lt (by omega) (by omega)]; exact h)]
      refine ⟨a, rfl, Nat.le_refl _, by omega, fun k h1 h2 => ⟨fun h9 => by omega, fun h9 => ?_⟩⟩
      have := tn_mono (wn_le (k - a - 1) e)
      omega
    · rw [if_neg (by rw [q_lt (by omega) (by omega)]; exact h), nx]
      obtain ⟨N, e1, e2, e3, e4⟩ := ih fu (a + 1) (wr e) (by omega) (by omega) (by omega)
      refine ⟨N, e1, by omega, e3, fun k h5 h6 => ?_⟩
      by_cases h7 : k = a + 1
      · subst h7
        rw [show a + 1 - a - 1 = 0 by omega]
        exact ⟨fun _ => Nat.le_of_not_lt h, fun _ => e2⟩
      · rw [e4 k (by omega) h6, show k - a - 1 = (k - (a + 1) - 1) + 1 by omega]
        rfl
theorem phb4 {lo hi : Nat → Int32} {i a0 b0 d z : Nat} (h8 : i < 8) (ha : lo i = nI a0) (hb : hi i = nI b0) (ba : a0 ≤ b0) (bb : b0 ≤ 15) (bd : d ≤ 9999) (bz : z ≤ 100) : ∃ N, fX0_pullsHeldBy lo hi (nI i) (nI d) (nI z) = some (nI N) ∧ N ≤ 300 ∧ ∀ k, 1 ≤ k → k ≤ 300 → (k ≤ N ↔ ((a0 ≤ tn d ∧ tn d ≤ b0) ∧ a0 ≤ tn (wn (k - z) d))) := by
  have ht : tn d ≤ 15 := by unfold tn; split <;> omega
  have hw := wr_le d
  unfold fX0_pullsHeldBy fX0_pullsHeldBy_26
  rw [tn4 bd, wo4 bd]
  simp only [Option.bind_some]
  rw [if_neg (show ¬ (300 : Int32) < nI z by rw [l300, q_lt (by omega) (by omega)]; omega), if_pos (show inb (nI i) 8 = true by rw [q_inb (by omega)]; exact h8), q_cl (by omega), ha, hb]
  by_cases h1 : tn d < a0
  · rw [if_pos (by rw [q_lt (by omega) (by omega)]; exact h1)]
    exact ⟨0, rfl, by omega, fun k h2 h3 => ⟨fun h => by omega, fun h => by omega⟩⟩
  · rw [if_neg (by rw [q_lt (by omega) (by omega)]; exact h1)]
    by_cases h2 : tn d ≤ b0
    · rw [if_pos (by rw [q_le (by omega) (by omega)]; exact h2)]
      obtain ⟨N, e1, e2, e3, e4⟩ := hb4 h8 ha (by omega) (300 - z) 100000 z (wr d) (by omega) (by omega) (by omega)
      refine ⟨N, e1, e3, fun k h5 h6 => ?_⟩
      by_cases h7 : k ≤ z
      · rw [show k - z = 0 by omega]
        exact ⟨fun _ => ⟨⟨by omega, h2⟩, by show a0 ≤ tn d; omega⟩, fun _ => by omega⟩
      · rw [e4 k (by omega) h6, show k - z = (k - z - 1) + 1 by omega]
        exact ⟨fun h => ⟨⟨by omega, h2⟩, h⟩, fun h => h.2⟩
    · rw [if_neg (by rw [q_le (by omega) (by omega)]; exact h2)]
      exact ⟨0, rfl, by omega, fun k h2 h3 => ⟨fun h => by omega, fun h => by omega⟩⟩
/-- what is known of the guards -/
def gOk (sp lo hi : Nat → Int32) (n pl : Nat) : Prop := ∀ i, i < n → ∃ c a b : Nat, sp i = nI c ∧ c / 36 = pl ∧ lo i = nI a ∧ hi i = nI b ∧ a ≤ b ∧ b ≤ 15
theorem ph4 {sp lo hi D : Nat → Int32} {n pl z : Nat} (hn : n ≤ 8) (hpl : pl < 3) (hg : gOk sp lo hi n pl) (h0 : ∀ j, j < 108 → ∃ d : Nat, D j = nI d ∧ d ≤ 9999) (bz : z ≤ 100) : ∀ (m fu i r : Nat), i + m = n → m < fu → r ≤ 300 → ∃ R, fX0_pullsHeld_7 sp lo hi (nI n) D (nI z) fu (nI r) (nI i) = some (nI R) ∧ ∀ k, 1 ≤ k → k ≤ 300 → (k ≤ R ↔ (k ≤ r ∧ ∀ j, i ≤ j → j < n → (dc (lo j) ≤ tn (dc (D (dc (sp j)))) ∧ tn (dc (D (dc (sp j)))) ≤ dc (hi j)) ∧ dc (lo j) ≤ tn (wn (k - z) (dc (D (dc (sp j))))))) ∧ R ≤ r := by
  intro m
  induction m with
  | zero =>
    intro fu i r h1 h2 h3
    obtain ⟨fu, rfl⟩ := n_suc h2
    rw [fX0_pullsHeld_7, if_pos (by rw [q_le (by omega) (by omega)]; omega)]
    exact ⟨r, rfl, fun k _ _ => ⟨⟨fun h => ⟨h, fun j h4 h5 => by omega⟩, fun h => h.1⟩, Nat.le_refl _⟩⟩
  | succ m ih =>
    intro fu i r h1 h2 h3
    obtain ⟨fu, rfl⟩ := n_suc h2
    obtain ⟨c, a, b, g1, g2, g3, g4, g5, g6⟩ := hg i (by omega)
    obtain ⟨d, hd, bd⟩ := h0 c (by omega)
    obtain ⟨N, e1, e2, e3⟩ := phb4 (lo := lo) (hi := hi) (show i < 8 by omega) g3 g4 g5 g6 bd bz
    rw [fX0_pullsHeld_7, if_neg (by rw [q_le (by omega) (by omega)]; omega), if_pos (by rw [q_inb (by omega)]; omega), q_cl (by omega), g1, if_pos (by rw [q_inb (by omega)]; omega), q_cl (by omega), hd, e1]
    simp only [Option.bind_some]
    rw [show (if nI N < nI r then nI N else nI r) = nI (if N < r then N else r) by
      simp (disch := omega) only [q_lt]
      by_cases h : N < r
      · rw [if_pos h, if_pos h]
      · rw [if_neg h, if_neg h], nx]
    have hr : (if N < r then N else r) ≤ N ∧ (if N < r then N else r) ≤ r ∧ ∀ k, k ≤ N → k ≤ r → k ≤ (if N < r then N else r) := by
      split
      · exact ⟨by omega, by omega, fun k _ _ => by omega⟩
      · exact ⟨by omega, by omega, fun k _ _ => by omega⟩
    obtain ⟨R, f1, f2⟩ := ih fu (i + 1) (if N < r then N else r) (by omega) (by omega) (by omega)
    refine ⟨R, f1, fun k hk1 hk2 => ?_⟩
    obtain ⟨f3, f4⟩ := f2 k hk1 hk2
    refine ⟨⟨fun h => ?_, fun h => ?_⟩, by omega⟩
    · obtain ⟨x1, x2⟩ := f3.mp h
      refine ⟨by omega, fun j h4 h5 => ?_⟩
      by_cases e : j = i
      · subst e
        have := (e3 k hk1 hk2).mp (by omega)
        rw [g1, g3, g4, dc_nI (by omega), dc_nI (by omega), dc_nI (by omega), hd, dc_nI (by omega)]
        exact this
      · exact x2 j (by omega) h5
    · refine f3.mpr ⟨?_, fun j h4 h5 => h.2 j (by omega) h5⟩
      have := h.2 i (Nat.le_refl _) (by omega)
      rw [g1, g3, g4, dc_nI (by omega), dc_nI (by omega), dc_nI (by omega), hd, dc_nI (by omega)] at this
      exact hr.2.2 k ((e3 k hk1 hk2).mpr this) h.1
/-- do all guards hold on these cells -/
def hold (sp lo hi : Nat → Int32) (n : Nat) (D : Nat → Int32) (i : Nat) : Prop := ∀ j, i ≤ j → j < n → dc (lo j) ≤ tn (dc (D (dc (sp j)))) ∧ tn (dc (D (dc (sp j)))) ≤ dc (hi j)
theorem al5 {sp lo hi gc gl gh D : Nat → Int32} {n pl : Nat} (hn : n ≤ 8) (hpl : pl < 3) (hg : gOk sp lo hi n pl) (he : ∀ i, i < n → gc i = sp i ∧ gl i = lo i ∧ gh i = hi i) (h0 : ∀ j, j < 108 → ∃ d : Nat, D j = nI d ∧ d ≤ 9999) : ∀ (m fu i : Nat), i + m = n → m < fu → (fX5_allHold_4 D (nI n) gc gl gh fu 0 (nI i) = some 0) ∧ ((hold sp lo hi n D i ∧ fX5_allHold_4 D (nI n) gc gl gh fu 1 (nI i) = some 1) ∨ (¬ hold sp lo hi n D i ∧ fX5_allHold_4 D (nI n) gc gl gh fu 1 (nI i) = some 0)) := by
  intro m
  induction m with
  | zero =>
    intro fu i h1 h2
    obtain ⟨fu, rfl⟩ := n_suc h2
    have hc : nI n ≤ nI i := by rw [q_le (by omega) (by omega)]; omega
    rw [fX5_allHold_4, fX5_allHold_4, if_pos hc, if_pos hc]
    exact ⟨rfl, Or.inl ⟨fun j h3 h4 => by omega, rfl⟩⟩
  | succ m ih =>
    intro fu i h1 h2
    obtain ⟨fu, rfl⟩ := n_suc h2
    obtain ⟨c, a, b, g1, g2, g3, g4, g5, g6⟩ := hg i (by omega)
    obtain ⟨e1, e2, e3⟩ := he i (by omega)
    obtain ⟨d, hd, bd⟩ := h0 c (by omega)
    have ht : tn d ≤ 15 := by unfold tn; split <;> omega
    obtain ⟨i1, i2⟩ := ih fu (i + 1) (by omega) (by omega)
    have hc : ¬ nI n ≤ nI i := by rw [q_le (by omega) (by omega)]; omega
    rw [fX5_allHold_4, fX5_allHold_4, if_neg hc, if_neg hc, if_pos c00, if_neg c10, if_pos (by rw [q_inb (by omega)]; omega), q_cl (by omega), e1, e2, e3, g1, if_pos (by rw [q_inb (by omega)]; omega), q_cl (by omega), hd, tn5 bd, g3, g4]
    unfold fX5_allHold_52 fX5_allHold_53
    simp only [Option.bind_some]
    rw [in5]
    simp only [Option.bind_some]
    rw [nx, i1]
    refine ⟨rfl, ?_⟩
    have hh : hold sp lo hi n D i ↔ ((a ≤ tn d ∧ tn d ≤ b) ∧ hold sp lo hi n D (i + 1)) := by
      constructor
      · intro h
        have := h i (Nat.le_refl _) (by omega)
        rw [g1, g3, g4, dc_nI (by omega), dc_nI (by omega), dc_nI (by omega), hd, dc_nI (by omega)] at this
        exact ⟨this, fun j h3 h4 => h j (by omega) h4⟩
      · intro h j h3 h4
        by_cases e : j = i
        · subst e
          rw [g1, g3, g4, dc_nI (by omega), dc_nI (by omega), dc_nI (by omega), hd, dc_nI (by omega)]
          exact h.1
        · exact h.2 j (by omega) h4
    by_cases h : tn d < a ∨ b < tn d
    · rw [if_pos (show nI (tn d) < nI a ∨ nI b < nI (tn d) by rw [q_lt (by omega) (by omega), q_lt (by omega) (by omega)]; exact h), if_pos c00]
      exact Or.inr ⟨fun h9 => by have := (hh.mp h9).1; omega, rfl⟩
    · rw [if_neg (show ¬ (nI (tn d) < nI a ∨ nI b < nI (tn d)) by rw [q_lt (by omega) (by omega), q_lt (by omega) (by omega)]; exact h), if_neg c10]
      rcases i2 with ⟨x, y⟩ | ⟨x, y⟩
      · exact Or.inl ⟨hh.mpr ⟨by omega, x⟩, y⟩
      · exact Or.inr ⟨fun h9 => x (hh.mp h9).2, y⟩
/-- the plate's cells after n pulls -/
def Dn (D : Nat → Int32) (p z n : Nat) : Nat → Int32 := fun j => if 36 * p ≤ j ∧ j < 36 * p + 36 then nI (wn (n - z) (dc (D j))) else D j
theorem Dn_ok {D : Nat → Int32} {p : Nat} (z n : Nat) (h0 : ∀ j, j < 108 → ∃ d : Nat, D j = nI d ∧ d ≤ 9999) : ∀ j, j < 108 → ∃ d : Nat, Dn D p z n j = nI d ∧ d ≤ 9999 := fun j hj => by
  obtain ⟨d, hd, bd⟩ := h0 j hj
  unfold Dn
  by_cases h : 36 * p ≤ j ∧ j < 36 * p + 36
  · rw [if_pos h, hd, dc_nI (by omega)]; exact ⟨_, rfl, Nat.le_trans (wn_le _ _) bd⟩
  · rw [if_neg h]; exact ⟨d, hd, bd⟩
theorem we_n {D st : Nat → Int32} {p z : Nat} (hp : p < 3) (h0 : ∀ j, j < 108 → ∃ d : Nat, D j = nI d ∧ d ≤ 9999) (bz : z ≤ 100) (n : Nat) : fX5_wears (Dn D p z n) (upd st p (nI (z - n))) (nI p) = some (Dn D p z (n + 1), upd st p (nI (z - (n + 1)))) := by
  rw [wea5 hp (Dn_ok z n h0) (up_at _ _ _) (by omega)]
  by_cases h : z - n = 0
  · rw [if_pos h]
    refine congrArg some (Prod.ext (funext fun j => ?_) ?_)
    · show (if 36 * p ≤ j ∧ j < 36 * p + 36 then nI (wr (dc (Dn D p z n j))) else Dn D p z n j) = Dn D p z (n + 1) j
      unfold Dn
      by_cases h9 : 36 * p ≤ j ∧ j < 36 * p + 36
      · obtain ⟨d, hd, bd⟩ := h0 j (by omega)
        have := wn_le (n - z) d
        rw [if_pos h9, if_pos h9, if_pos h9, hd, dc_nI (show d < 2147483648 by omega), dc_nI (by omega), wn_wr, show n + 1 - z = n - z + 1 by omega]
      · rw [if_neg h9, if_neg h9, if_neg h9]
    · show upd st p (nI (z - n)) = upd st p (nI (z - (n + 1)))
      rw [show z - (n + 1) = z - n by omega]
  · rw [if_neg h]
    refine congrArg some (Prod.ext (funext fun j => ?_) ?_)
    · show Dn D p z n j = Dn D p z (n + 1) j
      unfold Dn
      rw [show n + 1 - z = n - z by omega]
    · show upd (upd st p (nI (z - n))) p (nI (z - n - 1)) = _
      rw [up_up, show z - n - 1 = z - (n + 1) by omega]
theorem ed5 {st gc gl gh Fo : Nat → Int32} {n pl z R : Nat} {u4 : Int32} {u6 : (Nat → Int32) × (Nat → Int32) × (Nat → Int32) × (Nat → Int32)} (hc : gc 0 / 36 = nI pl) (hpl : pl < 3) (h0 : ∀ j, j < 108 → ∃ d : Nat, u6.2.1 j = nI d ∧ d ≤ 9999) (bz : z ≤ 100) (hR : R ≤ 300) (ha : ∀ k, 1 ≤ k → k ≤ 300 → fX5_allHold (Dn u6.2.1 pl z k) (nI n) gc gl gh = some (if k ≤ R then 1 else 0)) : ∀ (m fu x : Nat), x + m = 300 → x ≤ R → m < fu → ∃ k, fX5_edition_53 st (nI n) gc gl gh Fo u4 u6 fu (nI x) 1 (Dn u6.2.1 pl z x) (upd st pl (nI (z - x))) = fX5_edition_95 st gc Fo u4 u6 (nI R) (Dn u6.2.1 pl z k) (upd st pl (nI (z - k))) := by
  intro m
  induction m with
  | zero =>
    intro fu x h1 h2 h3
    obtain ⟨fu, rfl⟩ := n_suc h3
    rw [fX5_edition_53, if_neg c10, if_pos (by rw [l300, q_le (by omega) (by omega)]; omega), show R = x by omega]
    exact ⟨x, rfl⟩
  | succ m ih =>
    intro fu x h1 h2 h3
    obtain ⟨fu, rfl⟩ := n_suc h3
    rw [fX5_edition_53, if_neg c10, if_neg (by rw [l300, q_le (by omega) (by omega)]; omega), show ((0 : Int32).toNatClampNeg) = 0 from rfl, hc, we_n hpl h0 bz x]
    simp only [Option.bind_some]
    rw [ha (x + 1) (by omega) (by omega)]
    simp only [Option.bind_some]
    unfold fX5_edition_89
    by_cases h : x + 1 ≤ R
    · rw [if_pos h, if_neg c10, nx]
      exact ih fu (x + 1) (by omega) h (by omega)
    · rw [if_neg h, if_pos c00]
      obtain ⟨fu, rfl⟩ := n_suc (show 0 < fu by omega)
      rw [fX5_edition_53, if_pos c00, l0, nI_add, show R = x + 0 by omega]
      exact ⟨x + 1, rfl⟩
section OPS8
variable {K D L S : Nat → Int32} {sf : Nat → Option Nat} {T : Nat → Nat → Nat → Int32} {G De Li St Ke F Fo : Nat → Int32}
variable {dn ri st : Nat → Int32} {pu : Int32} {mdn mri mst : Nat → Int32} {mpu : Int32}
theorem op_edition (hP : InvP K D L S sf T G De Li St Ke) (hR : InvR dn ri st pu mdn mri mst mpu) {sp lo hi : Nat → Int32} {sz : Int32} {gc gl gh : Nat → Int32} {g : Int32} (hG : InvG sp lo hi sz gc gl gh g) (hF : InvF F Fo) : ∃ u v, fX4_edition D st sp lo hi sz F = some u ∧ fX5_edition G De Li St mst g gc gl gh Fo = some v ∧ v.1 = u.1 ∧ InvP K D L S sf T v.2.1 v.2.2.1 v.2.2.2.1 v.2.2.2.2.1 Ke ∧ InvR dn ri st pu mdn mri v.2.2.2.2.2.1 mpu ∧ InvG sp lo hi u.2.1 gc gl gh v.2.2.2.2.2.2.1 ∧ InvF u.2.2 v.2.2.2.2.2.2.2 := by
  obtain ⟨rfl, n, pl, rfl, hn, hpl, hw⟩ := id hG
  unfold fX4_edition fX5_edition
  rw [fd2, fs2]
  simp only [Option.bind_some]
  by_cases hz0 : n = 0
  · rw [if_pos (by rw [hz0]; rfl), if_pos (by rw [hz0]; rfl)]
    exact ⟨_, _, rfl, rfl, rfl, hP, hR, hG, hF.fnd (by decide)⟩
  · have hne : ¬ nI n = 0 := by rw [l0, q_eq (by omega) (by omega)]; exact hz0
    rw [if_neg hne, if_neg hne]
    unfold fX0_plateOfAll
    rw [show ((0 : Int32).toNatClampNeg) = 0 from rfl, if_pos in08, if_pos in08]
    obtain ⟨w1, w2, w3, c, x, y, w4, w5, w6⟩ := hw 0 (by omega)
    have hc4 : sp 0 / 36 = nI pl := by rw [w4, l36, q_div (by omega) (by omega) (by omega), w5]
    have hc5 : gc 0 / 36 = nI pl := by rw [w1]; exact hc4
    obtain ⟨-, -, sq, z, hz, bz⟩ := hR.2 pl hpl
    simp only [Option.bind_some]
    rw [hc4, hc5, if_pos (by rw [q_inb (by omega)]; exact hpl), if_pos (by rw [q_inb (by omega)]; exact hpl), q_cl (by omega), hz, s5h, show fX5_state (4 : Int32) = some (nI 540) from st5 4]
    simp only [Option.bind_some]
    rw [cpp5 G De Li St (a := 36 * pl) (b := 540) (by omega) (by omega) (by omega)]
    simp only [Option.bind_some]
    have hg : gOk sp lo hi n pl := fun i hi => (hw i hi).2.2.2
    have he : ∀ i, i < n → gc i = sp i ∧ gl i = lo i ∧ gh i = hi i := fun i hi => ⟨(hw i hi).1, (hw i hi).2.1, (hw i hi).2.2.1⟩
    have hd4 : ∀ j, j < 108 → ∃ d : Nat, D j = nI d ∧ d ≤ 9999 := fun j hj => (hP.dok j hj).2
    have eD : ∀ j, j < 540 → rc bbI De (36 * pl) 540 0 36 j = De j := fun j hj => if_neg (by omega)
    have h0 : ∀ j, j < 108 → ∃ d : Nat, rc bbI De (36 * pl) 540 0 36 j = nI d ∧ d ≤ 9999 := fun j hj => by rw [eD j (by omega), (hP.dok j hj).1]; exact hd4 j hj
    obtain ⟨R, r1, r2⟩ := ph4 (D := D) hn hpl hg hd4 bz n 100000 0 300 (by omega) (by omega) (by omega)
    have hR3 : R ≤ 300 := (r2 1 (by omega) (by omega)).2
    unfold fX0_pullsHeld
    rw [show fX0_pullsHeld_7 sp lo hi (nI n) D (nI z) 100000 300 0 = some (nI R) from r1]
    simp only [Option.bind_some]
    have hDn : ∀ k j, j < n → Dn (rc bbI De (36 * pl) 540 0 36) pl z k (dc (sp j)) = nI (wn (k - z) (dc (D (dc (sp j))))) ∧ wn (k - z) (dc (D (dc (sp j)))) ≤ dc (D (dc (sp j))) ∧ dc (D (dc (sp j))) ≤ 9999 := fun k j hj => by
      obtain ⟨c, a, b, g1, g2, g3⟩ := hg j hj
      obtain ⟨d, hd, bd⟩ := hd4 c (by omega)
      rw [g1, dc_nI (by omega), hd, dc_nI (by omega)]
      refine ⟨?_, wn_le _ _, bd⟩
      unfold Dn
      rw [if_pos (by omega), eD c (by omega), (hP.dok c (by omega)).1, hd, dc_nI (by omega)]
    have hal : ∀ k, 1 ≤ k → k ≤ 300 → hold sp lo hi n D 0 → fX5_allHold (Dn (rc bbI De (36 * pl) 540 0 36) pl z k) (nI n) gc gl gh = some (if k ≤ R then 1 else 0) := fun k hk1 hk2 hh => by
      obtain ⟨-, h⟩ := al5 (D := Dn (rc bbI De (36 * pl) 540 0 36) pl z k) hn hpl hg he (Dn_ok z k h0) n 100000 0 (by omega) (by omega)
      have hiff : k ≤ R ↔ hold sp lo hi n (Dn (rc bbI De (36 * pl) 540 0 36) pl z k) 0 := by
        rw [(r2 k hk1 hk2).1]
        constructor
        · rintro ⟨-, h2⟩ j h3 h4
          obtain ⟨q1, q2, q3⟩ := hDn k j h4
          rw [q1, dc_nI (by omega)]
          have := h2 j h3 h4
          exact ⟨this.2, Nat.le_trans (tn_mono q2) this.1.2⟩
        · intro h2
          refine ⟨hk2, fun j h3 h4 => ⟨hh j h3 h4, ?_⟩⟩
          obtain ⟨q1, q2, q3⟩ := hDn k j h4
          have := (h2 j h3 h4).1
          rw [q1, dc_nI (by omega)] at this
          exact this
      unfold fX5_allHold
      rcases h with ⟨x, y⟩ | ⟨x, y⟩
      · rw [if_pos (hiff.mpr x)]; exact y
      · rw [if_neg (fun h => x (hiff.mp h))]; exact y
    have h00 : hold sp lo hi n (rc bbI De (36 * pl) 540 0 36) 0 ↔ hold sp lo hi n D 0 := by
      have : ∀ j, j < n → rc bbI De (36 * pl) 540 0 36 (dc (sp j)) = D (dc (sp j)) := fun j hj => by
        obtain ⟨c, a, b, g1, g2, g3⟩ := hg j hj
        rw [g1, dc_nI (by omega), eD c (by omega), (hP.dok c (by omega)).1]
      constructor
      · intro h j h1 h2; have := h j h1 h2; rw [‹∀ j, j < n → rc bbI De (36 * pl) 540 0 36 (dc (sp j)) = D (dc (sp j))› j h2] at this; exact this
      · intro h j h1 h2; rw [this j h2]; exact h j h1 h2
    have hD0 : Dn (rc bbI De (36 * pl) 540 0 36) pl z 0 = rc bbI De (36 * pl) 540 0 36 := funext fun j => by
      unfold Dn
      by_cases h : 36 * pl ≤ j ∧ j < 36 * pl + 36
      · obtain ⟨d, hd, bd⟩ := h0 j (by omega)
        rw [if_pos h, hd, dc_nI (by omega), show 0 - z = 0 by omega]; rfl
      · rw [if_neg h]
    have hs0 : upd mst pl (nI (z - 0)) = mst := by rw [Nat.sub_zero, ← hz, ← sq, up_same]
    have fin : ∀ (k : Nat) (s : Nat → Int32), (s = mst ∨ ∃ x, s = upd mst pl x) → ∃ u v, some ((nI R, (0 : Int32), F) : Int32 × Int32 × (Nat → Int32)) = some u ∧ fX5_edition_95 mst gc Fo (nI 540) (rc bbI G (36 * pl) 540 0 36, rc bbI De (36 * pl) 540 0 36, rc bbI Li (36 * pl) 540 0 36, rc bb1 St (36 * pl) 540 0 36) (nI R) (Dn (rc bbI De (36 * pl) 540 0 36) pl z k) s = some v ∧ v.1 = u.1 ∧ InvP K D L S sf T v.2.1 v.2.2.1 v.2.2.2.1 v.2.2.2.2.1 Ke ∧ InvR dn ri st pu mdn mri v.2.2.2.2.2.1 mpu ∧ InvG sp lo hi u.2.1 gc gl gh v.2.2.2.2.2.2.1 ∧ InvF u.2.2 v.2.2.2.2.2.2.2 := by
      intro k s hs
      unfold fX5_edition_95
      rw [show ((0 : Int32).toNatClampNeg) = 0 from rfl, hc5, s5h, cpp5 _ _ _ _ (a := 540) (b := 36 * pl) (by omega) (by omega) (by omega), q_cl (by omega)]
      simp only [Option.bind_some]
      have es : upd s pl (mst pl) = mst := by
        rcases hs with rfl | ⟨x, rfl⟩
        · exact up_same _ _
        · rw [up_up, up_same]
      rw [es]
      refine ⟨_, _, rfl, rfl, rfl, ?_, hR, ⟨rfl, 0, 0, rfl, by omega, by omega, fun i hi => absurd hi (by omega)⟩, hF⟩
      refine hP.main (fun i hi => ?_) (fun i h1 h2 => ?_)
      · obtain ⟨m0, m1, m2, m3, m4⟩ := hP.at hi
        show _ ∧ rc bbI (rc bbI G (36 * pl) 540 0 36) 540 (36 * pl) 0 36 (0 + i) = _ ∧ rc bbI (Dn (rc bbI De (36 * pl) 540 0 36) pl z k) 540 (36 * pl) 0 36 (0 + i) = _ ∧ rc bbI (rc bbI Li (36 * pl) 540 0 36) 540 (36 * pl) 0 36 (0 + i) = _ ∧ rc bb1 (rc bb1 St (36 * pl) 540 0 36) 540 (36 * pl) 0 36 (0 + i) = _
        rw [Nat.zero_add]
        unfold Dn rc
        by_cases h : 36 * pl + 0 ≤ i ∧ i < 36 * pl + 0 + 36
        · have h1 : 540 + 0 ≤ 540 + (i - 36 * pl) ∧ 540 + (i - 36 * pl) < 540 + 0 + 36 := by omega
          have h2 : ¬ (36 * pl ≤ 540 + (i - 36 * pl) ∧ 540 + (i - 36 * pl) < 36 * pl + 36) := by omega
          simp only [if_pos h, if_pos h1, if_neg h2, show 36 * pl + (540 + (i - 36 * pl) - 540) = i by omega]
          rw [m4, m0.b1, m0.b1]
          exact ⟨m0, m1, m2, m3, rfl⟩
        · have h1 : ¬ (540 + 0 ≤ i ∧ i < 540 + 0 + 36) := by omega
          have h2 : ¬ (36 * pl ≤ i ∧ i < 36 * pl + 36) := by omega
          simp only [if_neg h, if_neg h1, if_neg h2]
          exact ⟨m0, m1, m2, m3, m4⟩
      · have h3 : ¬ (540 + 0 ≤ i ∧ i < 540 + 0 + 36) := by omega
        have h4 : ¬ (36 * pl + 0 ≤ i ∧ i < 36 * pl + 0 + 36) := by omega
        have h5 : ¬ (36 * pl ≤ i ∧ i < 36 * pl + 36) := by omega
        show rc bbI (rc bbI G (36 * pl) 540 0 36) 540 (36 * pl) 0 36 i = _ ∧ rc bbI (Dn (rc bbI De (36 * pl) 540 0 36) pl z k) 540 (36 * pl) 0 36 i = _ ∧ rc bbI (rc bbI Li (36 * pl) 540 0 36) 540 (36 * pl) 0 36 i = _ ∧ rc bb1 (rc bb1 St (36 * pl) 540 0 36) 540 (36 * pl) 0 36 i = _
        unfold Dn rc
        simp only [if_neg h3, if_neg h4, if_neg h5]
        exact ⟨trivial, trivial, trivial, trivial⟩
    obtain ⟨-, h⟩ := al5 (D := rc bbI De (36 * pl) 540 0 36) hn hpl hg he h0 n 100000 0 (by omega) (by omega)
    rcases h with ⟨x, y⟩ | ⟨x, y⟩
    · rw [show fX5_allHold (rc bbI De (36 * pl) 540 0 36) (nI n) gc gl gh = some 1 from y]
      simp only [Option.bind_some]
      obtain ⟨k, hk⟩ := ed5 (st := mst) (gc := gc) (gl := gl) (gh := gh) (Fo := Fo) (n := n) (pl := pl) (z := z) (R := R) (u4 := nI 540) (u6 := (rc bbI G (36 * pl) 540 0 36, rc bbI De (36 * pl) 540 0 36, rc bbI Li (36 * pl) 540 0 36, rc bb1 St (36 * pl) 540 0 36)) hc5 hpl h0 bz hR3 (fun k h1 h2 => hal k h1 h2 (h00.mp x)) 300 100000 0 (by omega) (by omega) (by omega)
      simp only [hD0, hs0] at hk
      rw [← l0] at hk
      rw [hk]
      exact fin k _ (Or.inr ⟨_, rfl⟩)
    · rw [show fX5_allHold (rc bbI De (36 * pl) 540 0 36) (nI n) gc gl gh = some 0 from y]
      simp only [Option.bind_some]
      have hR0 : R = 0 := by
        refine Nat.eq_zero_of_not_pos (fun h1 => x (h00.mpr (fun j h2 h3 => ?_)))
        exact (((r2 1 (by omega) (by omega)).1.mp h1).2 j h2 h3).1
      obtain ⟨fu, hfu⟩ := fu
      rw [hfu, fX5_edition_53, if_pos c00, l0]
      have := fin 0 mst (Or.inl rfl)
      rw [hD0, hR0] at this
      rw [hR0]
      exact this
end OPS8
