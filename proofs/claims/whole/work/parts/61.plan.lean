theorem dec1 (k : Nat) : nI (k + 1) + (-1 : Int32) = nI k := by
  rw [← nx, Int32.add_assoc, show (1 : Int32) + (-1) = 0 from rfl, Int32.add_zero]
theorem inc1 (q : Nat) : nI q - 1 + 1 = nI q := Int32.sub_add_cancel _ _
section PLAN2
variable {a b : Nat → Nat} {n : Nat} {fi la mf ml : Nat → Int32}
theorem p106 (hn : n ≤ 8) (hS : Spa a b n) (hR : Row fi la a b n) {q x c N : Nat} (hE : x ≤ El a b n q) (hN : N ≤ 8) (hc : c < N) (hg : gq a b n (x + 1) < N - c) {me : Nat → Int32} (hM : ∀ j, j < n → (me j = 0 ↔ q ≤ a j)) (mi : Nat → Int32) (k95 : Int32 → Int32 → (Nat → Int32) → (Nat → Int32) → (Nat → Int32) → Option (Int32 × (Nat → Int32) × (Nat → Int32) × (Nat → Int32) × (Nat → Int32) × Int32 × (Nat → Int32) × Int32 × Int32 × (Nat → Int32) × (Nat → Int32))) : ∀ (d fu m : Nat) (tr : Nat → Int32), m + d = x → d < fu → q ≤ m → (∀ y, m ≤ y → y < x → ¬ gq a b n (y + 1) < N - c) → ∃ tr', fX5_plans_106 (nI n) fi la (nI N) (nI c) mi me k95 fu (nI m) tr = fX5_plans_128 (nI n) fi la (nI c) mi me k95 (nI x) (1, tr') := by
  intro d
  induction d with
  | zero =>
    intro fu m tr h1 h2 h3 h4
    obtain ⟨fu, rfl⟩ := n_suc h2
    obtain ⟨tr', e⟩ := canb hn hS hR (p := N - c - 1) h3 (show m ≤ El a b n q by omega) (by omega) hM tr
    rw [fX5_plans_106, q_sub (by omega), l1, q_sub (by omega), e]
    simp only [Option.bind_some]
    rw [show m = x by omega, if_neg (show ¬ N - c - 1 < gq a b n (x + 1) by omega)]
    exact ⟨tr', if_neg c10⟩
  | succ d ih =>
    intro fu m tr h1 h2 h3 h4
    obtain ⟨fu, rfl⟩ := n_suc h2
    obtain ⟨tr', e⟩ := canb hn hS hR (p := N - c - 1) h3 (show m ≤ El a b n q by omega) (by omega) hM tr
    rw [fX5_plans_106, q_sub (by omega), l1, q_sub (by omega), e]
    simp only [Option.bind_some]
    rw [if_pos (show N - c - 1 < gq a b n (m + 1) by have := h4 m (Nat.le_refl _) (by omega); omega), if_pos c00, ← l1, nx]
    exact ih fu (m + 1) tr' (by omega) (by omega) (by omega) (fun y h5 h6 => h4 y (by omega) h6)
theorem p137 (hn : n ≤ 8) (hS : Spa a b n) (hR : Row fi la a b n) {q x : Nat} (hq : q ≤ x) (hx : x ≤ 200) (hE : x ≤ El a b n q) (x2 : Int32) (u4 : Int32 × (Nat → Int32)) (mi : Nat → Int32) (k95 : Int32 → Int32 → (Nat → Int32) → (Nat → Int32) → (Nat → Int32) → Option (Int32 × (Nat → Int32) × (Nat → Int32) × (Nat → Int32) × (Nat → Int32) × Int32 × (Nat → Int32) × Int32 × Int32 × (Nat → Int32) × (Nat → Int32))) : ∀ (k fu i : Nat) (me : Nat → Int32), i + k = n → k < fu → (∀ j, j < i → (me j = 0 ↔ x + 1 ≤ a j)) → (∀ j, i ≤ j → j < n → (me j = 0 ↔ q ≤ a j)) → ∃ me', fX5_plans_137 (nI n) fi la x2 mi k95 (nI x) u4 fu (nI i) me = fX5_plans_190 x2 mi k95 (nI x) u4 me' ∧ ∀ j, j < n → (me' j = 0 ↔ x + 1 ≤ a j) := by
  intro k
  induction k with
  | zero =>
    intro fu i me h1 h2 h3 h4
    obtain ⟨fu, rfl⟩ := n_suc h2
    rw [fX5_plans_137, if_pos (by rw [q_le (by omega) (by omega)]; omega)]
    exact ⟨me, rfl, fun j hj => h3 j (by omega)⟩
  | succ k ih =>
    intro fu i me h1 h2 h3 h4
    obtain ⟨fu, rfl⟩ := n_suc h2
    obtain ⟨r1, r2⟩ := hR i (by omega)
    obtain ⟨s1, s2⟩ := hS i (by omega)
    have hMi := h4 i (Nat.le_refl _) (by omega)
    have ext : ∀ y : Int32, (y = 0 ↔ x + 1 ≤ a i) → ∃ me', fX5_plans_137 (nI n) fi la x2 mi k95 (nI x) u4 fu (nI (i + 1)) (upd me i y) = fX5_plans_190 x2 mi k95 (nI x) u4 me' ∧ ∀ j, j < n → (me' j = 0 ↔ x + 1 ≤ a j) := fun y hy => by
      refine ih fu (i + 1) (upd me i y) (by omega) (by omega) (fun j hj => ?_) (fun j h5 h6 => ?_)
      · by_cases e : j = i
        · rw [e, up_at]; exact hy
        · rw [up_ne _ _ e]; exact h3 j (by omega)
      · rw [up_ne _ _ (by omega)]; exact h4 j (by omega) h6
    rw [fX5_plans_137, if_neg (by rw [q_le (by omega) (by omega)]; omega), if_pos (show inb (nI i) 8 = true by rw [q_inb (by omega)]; omega), q_cl (by omega), r1, r2, in5]
    unfold fX5_plans_178 fX5_plans_183
    rw [q_cl (by omega), q_and0, q_and1, nx]
    simp (disch := omega) only [Option.bind_some, q_lt]
    by_cases hz : me i = 0
    · have hb := El_b (b := b) (show i < n by omega) (hMi.mp hz)
      rw [if_pos hz]
      by_cases h : x < a i ∨ b i < x
      · rw [if_pos h, if_pos c00]
        exact ext _ ⟨fun _ => by omega, fun _ => rfl⟩
      · rw [if_neg h, if_neg c10]
        exact ext _ ⟨fun h9 => absurd h9 (by decide), fun h9 => by omega⟩
    · rw [if_neg hz]
      have : ¬ q ≤ a i := fun h9 => hz (hMi.mpr h9)
      exact ext _ ⟨fun h9 => absurd h9 (by decide), fun h9 => by omega⟩
def Mi (wm mi : Nat → Int32) (c q : Nat) : Prop := ∀ i, i < c → mi i = wm i ∧ ∃ x : Nat, wm i = nI x ∧ x < q ∧ x ≤ 200 ∧ ∀ i', i' < i → dc (wm i') ≤ x
theorem Mi.step {wm mi : Nat → Int32} {c q x : Nat} (h : Mi wm mi c q) (hq : q ≤ x) (hx : x ≤ 200) : Mi (upd wm c (nI x)) (upd mi c (nI x)) (c + 1) (x + 1) := fun i hi => by
  have lo : ∀ i', i' < c → dc (upd wm c (nI x) i') = dc (wm i') := fun i' h' => by rw [up_ne _ _ (by omega)]
  by_cases e : i = c
  · subst e
    rw [up_at, up_at]
    refine ⟨rfl, x, rfl, by omega, hx, fun i' hi' => ?_⟩
    obtain ⟨-, y, hy, b1, b2, -⟩ := h i' hi'
    rw [lo i' hi', hy, dc_nI (by omega)]
    omega
  · rw [up_ne _ _ e, up_ne _ _ e]
    obtain ⟨e1, y, hy, b1, b2, b3⟩ := h i (by omega)
    exact ⟨e1, y, hy, by omega, b2, fun i' hi' => by rw [lo i' (by omega)]; exact b3 i' hi'⟩
theorem plan_lp (hn : n ≤ 8) (hS : Spa a b n) {u1 : Int32 × (Nat → Int32) × (Nat → Int32)} (hR4 : Row u1.2.1 u1.2.2 a b n) (hR5 : Row mf ml a b n) {N : Nat} (hN : N ≤ 8) (y1 y2 : Int32) (De Li : Nat → Int32) : ∀ (left fu fu' q c : Nat) (wm mi me tr : Nat → Int32), gq a b n q = left → c + left = N → left < fu → left < fu' → q ≤ 201 → (∀ j, j < n → (me j = 0 ↔ q ≤ a j)) → Mi wm mi c q → ∃ wm' mi' me' tr', fX3_plan_28 (nI n) u1 fu (nI q - 1) (nI left) (nI c) wm = some (1, u1.2.1, u1.2.2, wm', nI N) ∧ fX5_plans_95 (nI n) y1 y2 De Li mf ml (nI N) fu' (nI q - 1) (nI c) mi me tr = some (1, De, Li, mf, ml, nI N, mi', y1, y2, me', tr') ∧ Mi wm' mi' N 201 := by
  intro left
  induction left with
  | zero =>
    intro fu fu' q c wm mi me tr h1 h2 h3 h4 h5 h6 h7
    obtain ⟨fu, rfl⟩ := n_suc h3
    obtain ⟨fu', rfl⟩ := n_suc h4
    rw [fX3_plan_28, fX5_plans_95, if_pos (show nI 0 ≤ 0 by decide), if_pos (by rw [q_le (by omega) (by omega)]; omega), show c = N by omega]
    refine ⟨wm, mi, me, tr, rfl, rfl, fun i hi => ?_⟩
    obtain ⟨e1, y, hy, b1, b2, b3⟩ := h7 i (by omega)
    exact ⟨e1, y, hy, by omega, b2, b3⟩
  | succ left ih =>
    intro fu fu' q c wm mi me tr h1 h2 h3 h4 h5 h6 h7
    obtain ⟨fu, rfl⟩ := n_suc h3
    obtain ⟨fu', rfl⟩ := n_suc h4
    obtain ⟨x, e1, e2, e3, e4, e5, e6⟩ := next hn hS hR4 (q := q) (left := left + 1) (by omega) (by omega) (by omega) h1
    rw [fX3_plan_28, fX5_plans_95, if_neg (show ¬ nI (left + 1) ≤ 0 by rw [l0, q_le (by omega) (by omega)]; omega), if_neg (show ¬ nI N ≤ nI c by rw [q_le (by omega) (by omega)]; omega), e1, inc1]
    simp only [Option.bind_some]
    obtain ⟨tr', t1⟩ := p106 hn hS hR5 (c := c) (N := N) e4 hN (by omega) (by omega) h6 mi (fX5_plans_95 (nI n) y1 y2 De Li mf ml (nI N) fu') (x - q) 100000 q tr (by omega) (by omega) (Nat.le_refl _) (fun y h8 h9 => by rw [show N - c = left + 1 by omega]; exact e6 y h8 h9)
    rw [t1]
    unfold fX5_plans_128
    obtain ⟨me', m1, m2⟩ := p137 hn hS hR5 e2 e3 e4 (nI c) (1, tr') mi (fX5_plans_95 (nI n) y1 y2 De Li mf ml (nI N) fu') n 100000 0 me (by omega) (by omega) (fun j hj => by omega) (fun j _ hj => h6 j hj)
    rw [if_pos (show inb (nI c) 8 = true by rw [q_inb (by omega)]; omega), if_pos (show inb (nI c) 8 = true by rw [q_inb (by omega)]; omega), show fX5_plans_137 (nI n) mf ml (nI c) mi (fX5_plans_95 (nI n) y1 y2 De Li mf ml (nI N) fu') (nI x) (1, tr') 100000 0 me = _ from m1]
    unfold fX5_plans_190
    rw [q_cl (by omega), nx, dec1, pr_s x]
    have := ih fu fu' (x + 1) (c + 1) (upd wm c (nI x)) (upd mi c (nI x)) me' tr' (by omega) (by omega) (by omega) (by omega) (by omega) m2 (h7.step e2 e3)
    rw [pr_s x] at this
    exact this
end PLAN2
def SpOk (i : Nat) (fi la mf ml me : Nat → Int32) : Prop := ∀ j, j < i → ∃ a b : Nat, fi j = nI a ∧ la j = nI b ∧ mf j = nI a ∧ ml j = nI b ∧ me j = 0 ∧ a ≤ b ∧ b ≤ 200
theorem SpOk.step {i : Nat} {fi la mf ml me : Nat → Int32} (h : SpOk i fi la mf ml me) {x y : Nat} (h1 : x ≤ y) (h2 : y ≤ 200) : SpOk (i + 1) (upd fi i (nI x)) (upd la i (nI y)) (upd mf i (nI x)) (upd ml i (nI y)) (upd me i (nI 0)) := fun j hj => by
  by_cases e : j = i
  · subst e
    simp only [up_at]
    exact ⟨x, y, rfl, rfl, rfl, rfl, rfl, h1, h2⟩
  · simp only [up_ne _ _ e]
    exact h j (by omega)
section OPS10
variable {K D L S : Nat → Int32} {sf : Nat → Option Nat} {T : Nat → Nat → Nat → Int32} {G De Li St Ke F Fo : Nat → Int32}
def wOk (sp to wc wt : Nat → Int32) (n pl : Nat) : Prop := ∀ i, i < n → wc i = sp i ∧ wt i = to i ∧ ∃ c t : Nat, sp i = nI c ∧ c / 36 = pl ∧ to i = nI t ∧ t ≤ 15
theorem fs_lp (hP : InvP K D L S sf T G De Li St Ke) {a c : Nat} (ha : a ≤ 9) (hc : c ≤ 4) {n pl : Nat} (hn : n ≤ 8) (hpl : pl < 3) {sp to wc wt : Nat → Int32} (hw : wOk sp to wc wt n pl) (ba : Int32) (mi tr : Nat → Int32) : ∀ (m fu fu' i : Nat) (fi la mf ml me : Nat → Int32) (y1 y2 : Int32), i + m = n → m < fu → m < fu' → SpOk i fi la mf ml me →
    (∃ u v, fX3_findSpans_2 sp to (nI n) K D L S (nI (bt a c)) fu (nI i) fi la = some u ∧ fX5_plans_2 G St (nI a) (nI c) (nI n) wc wt ba mi tr fu' (nI i) y1 y2 De Li mf ml me = some v ∧ u.1 = 0 ∧ v.1 = 0 ∧ v.2.1 = De ∧ v.2.2.1 = Li) ∨
    (∃ fi' la' mf' ml' me' y1' y2', fX3_findSpans_2 sp to (nI n) K D L S (nI (bt a c)) fu (nI i) fi la = some (1, fi', la') ∧ fX5_plans_2 G St (nI a) (nI c) (nI n) wc wt ba mi tr fu' (nI i) y1 y2 De Li mf ml me = fX5_plans_78 (nI n) mi tr y1' y2' De Li mf' ml' me' ∧ SpOk n fi' la' mf' ml' me') := by
  intro m
  induction m with
  | zero =>
    intro fu fu' i fi la mf ml me y1 y2 h1 h2 h3 h4
    obtain ⟨fu, rfl⟩ := n_suc h2
    obtain ⟨fu', rfl⟩ := n_suc h3
    have hc : nI n ≤ nI i := by rw [q_le (by omega) (by omega)]; omega
    rw [fX3_findSpans_2, fX5_plans_2, if_pos hc, if_pos hc]
    exact Or.inr ⟨fi, la, mf, ml, me, y1, y2, rfl, rfl, by rw [show n = i by omega]; exact h4⟩
  | succ m ih =>
    intro fu fu' i fi la mf ml me y1 y2 h1 h2 h3 h4
    obtain ⟨fu, rfl⟩ := n_suc h2
    obtain ⟨fu', rfl⟩ := n_suc h3
    obtain ⟨w1, w2, j, t, w3, w4, w5, w6⟩ := hw i (by omega)
    have hj : j < 108 := by omega
    obtain ⟨⟨kn, dn, ln, sn, hk, hd, hl, hs, c1, c2, c3, c4, c5⟩, e1, e2, e3, e4⟩ := hP.at hj
    have hcc : ¬ nI n ≤ nI i := by rw [q_le (by omega) (by omega)]; omega
    have i8 : inb (nI i) 8 = true := by rw [q_inb (by omega)]; omega
    obtain ⟨f1, f2⟩ := fml4 (K := K) (D := D) (L := L) hj (bt_le ha hc).2 w6 hk hd hl c1 c2 c3
    rw [fX3_findSpans_2, fX5_plans_2, if_neg hcc, if_neg hcc, if_pos i8, if_pos i8, q_cl (by omega), w1, w2, w3, w5, f1, f2]
    simp only [Option.bind_some]
    rw [if_pos (show inb (nI j) 108 = true by rw [q_inb (by omega)]; exact hj), if_pos (show inb (nI j) 648 = true by rw [q_inb (by omega)]; omega), q_cl (by omega), e4, up_at, up_at]
    unfold fX3_findSpans_85 fX5_plans_43
    by_cases h0 : S j = 0
    · rw [if_pos h0, if_pos h0, lo5 (t := t) hj ha hc (e1.trans hk) (e2.trans hd) (e3.trans hl) c1 c2 c3 c5 w6 (e4.trans h0)]
      simp only [Option.bind_some]
      have hFF := mod_le (bt a c) kn dn ln (40 * t)
      have hLL := lst_le (bt a c) kn dn ln t
      have hle := le_m1 (f := mod (bt a c) kn dn ln (40 * t)) (l := lst (bt a c) kn dn ln t) (by omega) (by omega)
      by_cases h9 : mod (bt a c) kn dn ln (40 * t) < lst (bt a c) kn dn ln t
      · rw [if_pos (hle.mpr h9), if_pos h9, if_neg c10, q_and0, nx, l1, q_sub (show 1 ≤ lst (bt a c) kn dn ln t by omega)]
        exact ih fu fu' (i + 1) _ _ _ _ _ _ _ (by omega) (by omega) (by omega) (h4.step (by omega) (by omega))
      · rw [if_neg (fun h => h9 (hle.mp h)), if_neg h9, if_pos c00]
        exact Or.inl ⟨_, _, rfl, rfl, rfl, rfl, rfl, rfl⟩
    · rw [if_neg h0, if_neg h0]
      exact Or.inl ⟨_, _, rfl, rfl, rfl, rfl, rfl, rfl⟩
theorem plan_ok (hP : InvP K D L S sf T G De Li St Ke) {a c : Nat} (ha : a ≤ 9) (hc : c ≤ 4) {n pl : Nat} (hn : n ≤ 8) (hpl : pl < 3) {sp to wc wt : Nat → Int32} (hw : wOk sp to wc wt n pl) (fi la wm : Nat → Int32) (pn ba : Int32) (mf ml mi me tr : Nat → Int32) (y1 y2 : Int32) :
    (∃ u v, fX3_plan sp to fi la wm (nI n) pn K D L S (nI (bt a c)) = some u ∧ fX5_plans G De Li St (nI a) (nI c) (nI n) wc wt mf ml ba mi y1 y2 me tr = some v ∧ u.1 = 0 ∧ v.1 = 0 ∧ v.2.1 = De ∧ v.2.2.1 = Li) ∨
    (∃ fi' la' wm' mf' ml' mi' me' tr' y1' y2' N, fX3_plan sp to fi la wm (nI n) pn K D L S (nI (bt a c)) = some (1, fi', la', wm', nI N) ∧ fX5_plans G De Li St (nI a) (nI c) (nI n) wc wt mf ml ba mi y1 y2 me tr = some (1, De, Li, mf', ml', nI N, mi', y1', y2', me', tr') ∧ N ≤ n ∧ (∀ j, j < n → mf' j = fi' j ∧ ml' j = la' j) ∧ Mi wm' mi' N 201) := by
  unfold fX3_plan fX5_plans fX3_findSpans
  rcases fs_lp hP ha hc hn hpl hw ba mi tr n 100000 100000 0 fi la mf ml me y1 y2 (by omega) (by omega) (by omega) (fun j hj => by omega) with ⟨u, v, s1, s2, s3, s4, s5, s6⟩ | ⟨fi', la', mf', ml', me', y1', y2', s1, s2, s3⟩
  · rw [l0, s1, s2]
    simp only [Option.bind_some]
    rw [if_pos (show u.1 = nI 0 from s3)]
    exact Or.inl ⟨_, v, rfl, rfl, rfl, s4, s5, s6⟩
  · rw [l0, s1, s2, ← l0]
    simp only [Option.bind_some]
    rw [if_neg c10]
    have hS : Spa (fun j => dc (fi' j)) (fun j => dc (la' j)) n := fun j hj => by
      obtain ⟨x, y, q1, q2, q3, q4, q5, q6, q7⟩ := s3 j hj
      dsimp only
      rw [q1, q2, dc_nI (by omega), dc_nI (by omega)]
      exact ⟨q6, q7⟩
    have hR4 : Row fi' la' (fun j => dc (fi' j)) (fun j => dc (la' j)) n := fun j hj => by
      obtain ⟨x, y, q1, q2, q3, q4, q5, q6, q7⟩ := s3 j hj
      dsimp only
      rw [q1, q2, dc_nI (by omega), dc_nI (by omega)]
      exact ⟨rfl, rfl⟩
    have hR5 : Row mf' ml' (fun j => dc (fi' j)) (fun j => dc (la' j)) n := fun j hj => by
      obtain ⟨x, y, q1, q2, q3, q4, q5, q6, q7⟩ := s3 j hj
      dsimp only
      rw [q1, q2, q3, q4, dc_nI (by omega), dc_nI (by omega)]
      exact ⟨rfl, rfl⟩
    have hme : ∀ j, j < n → (me' j = 0 ↔ 0 ≤ dc (fi' j)) := fun j hj => by
      obtain ⟨x, y, q1, q2, q3, q4, q5, q6, q7⟩ := s3 j hj
      exact ⟨fun _ => Nat.zero_le _, fun _ => q5⟩
    have hg := gq_n hS 0
    unfold fX5_plans_78
    rw [show (-1 : Int32) = nI 0 - 1 from rfl, fbl4 hn hS hR4 (by omega), few5 hn hS hR5 (by omega) (fun j hj h => absurd ((hme j hj).mpr (Nat.zero_le _)) h)]
    simp only [Option.bind_some]
    obtain ⟨wm', mi', me'', tr', t1, t2, t3⟩ := plan_lp hn hS (u1 := (1, fi', la')) hR4 hR5 (N := gq (fun j => dc (fi' j)) (fun j => dc (la' j)) n 0) (by omega) y1' y2' De Li _ 100000 100000 0 0 wm mi me' tr rfl (by omega) (by omega) (by omega) (by omega) hme (fun i hi => by omega)
    rw [← l0] at t1 t2
    refine Or.inr ⟨fi', la', wm', mf', ml', mi', me'', tr', y1', y2', _, t1, t2, hg, fun j hj => ?_, t3⟩
    obtain ⟨x, y, q1, q2, q3, q4, q5, q6, q7⟩ := s3 j hj
    exact ⟨q3.trans q1.symm, q4.trans q2.symm⟩
theorem op_baths (hP : InvP K D L S sf T G De Li St Ke) {st he ms mh : Int32} (hB : InvB st he ms mh) {sp to : Nat → Int32} {sz : Int32} {wc wt : Nat → Int32} {w : Int32} (hW : InvW sp to sz wc wt w) (hF : InvF F Fo) (fi la wm : Nat → Int32) (pn ba : Int32) (mf ml mi me tr : Nat → Int32) (y1 y2 : Int32) : ∃ u v, fX4_baths K D L S sp to fi la wm sz pn F st he = some u ∧ fX5_baths G De Li St ms mh w wc wt mf ml ba mi Fo y1 y2 me tr = some v ∧ v.1 = u.1 ∧ InvP K D L S sf T G v.2.1 v.2.2.1 St Ke ∧ InvF u.2.2.2.2.2 v.2.2.2.2.2.2.2.1 := by
  obtain ⟨rfl, rfl, a, c, rfl, rfl, b1, b2, b3⟩ := hB
  obtain ⟨rfl, n, pl, rfl, hn, hpl, hw⟩ := hW
  unfold fX4_baths fX5_baths
  rw [fd2, fs2, bi4 b2 b3]
  simp only [Option.bind_some]
  rcases plan_ok hP b2 b3 hn hpl hw fi la wm pn ba mf ml mi me tr y1 y2 with ⟨u, v, s1, s2, s3, s4, s5, s6⟩ | ⟨fi', la', wm', mf', ml', mi', me', tr', y1', y2', N, s1, s2, s3, s4, s5⟩
  · rw [s1, s2]
    simp only [Option.bind_some]
    rw [if_pos s3, if_pos s4]
    refine ⟨_, _, rfl, rfl, rfl, ?_, hF.fnd (by decide)⟩
    show InvP K D L S sf T G v.2.1 v.2.2.1 St Ke
    rw [s5, s6]; exact hP
  · rw [s1, s2]
    simp only [Option.bind_some]
    rw [if_neg c10, if_neg c10]
    exact ⟨_, _, rfl, rfl, rfl, hP, hF⟩
theorem op_minute (hP : InvP K D L S sf T G De Li St Ke) {st he ms mh : Int32} (hB : InvB st he ms mh) {sp to : Nat → Int32} {sz : Int32} {wc wt : Nat → Int32} {w : Int32} (hW : InvW sp to sz wc wt w) (hF : InvF F Fo) (fi la wm : Nat → Int32) (pn ba : Int32) (mf ml mi me tr : Nat → Int32) (y1 y2 p : Int32) : ∃ u v, fX4_minute K D L S sp to fi la wm sz pn F st he p = some u ∧ fX5_minute G De Li St ms mh w wc wt mf ml ba mi Fo y1 y2 me tr p = some v ∧ v.1 = u.1 ∧ InvP K D L S sf T G v.2.1 v.2.2.1 St Ke ∧ InvF u.2.2.2.2.2 v.2.2.2.2.2.2.2.1 := by
  obtain ⟨rfl, rfl, a, c, rfl, rfl, b1, b2, b3⟩ := hB
  obtain ⟨rfl, n, pl, rfl, hn, hpl, hw⟩ := hW
  unfold fX4_minute fX5_minute fX4_minute_40 fX5_minute_34
  rw [fd1, fs1, fd2, fs2, bi4 b2 b3]
  simp only [Option.bind_some]
  by_cases hp : 0 ≤ p
  · rw [if_pos hp, if_pos hp]
    obtain ⟨k, hk, rfl⟩ := q_of (i32_nlt.mpr hp)
    rcases plan_ok hP b2 b3 hn hpl hw fi la wm pn ba mf ml mi me tr y1 y2 with ⟨u, v, s1, s2, s3, s4, s5, s6⟩ | ⟨fi', la', wm', mf', ml', mi', me', tr', y1', y2', N, s1, s2, s3, s4, s5⟩
    · rw [s1, s2]
      simp only [Option.bind_some]
      rw [if_pos s3, if_pos s4]
      refine ⟨_, _, rfl, rfl, rfl, ?_, hF.fnd (by decide)⟩
      show InvP K D L S sf T G v.2.1 v.2.2.1 St Ke
      rw [s5, s6]; exact hP
    · rw [s1, s2]
      simp only [Option.bind_some]
      rw [if_neg c10, if_neg c10]
      simp (disch := omega) only [q_lt, q_le, q_inb, q_cl]
      by_cases h : k < N
      · rw [if_pos h, if_neg (show ¬ N ≤ k by omega), if_pos (show k < 8 by omega), if_pos (show k < 8 by omega)]
        exact ⟨_, _, rfl, rfl, (s5 k h).1, hP, hF⟩
      · rw [if_neg h, if_pos (show N ≤ k by omega)]
        exact ⟨_, _, rfl, rfl, rfl, hP, hF.fnd (by decide)⟩
  · rw [if_neg hp, if_neg hp]
    exact ⟨_, _, rfl, rfl, rfl, hP, hF.fnd (by decide)⟩
theorem InvP.stp (hP : InvP K D L S sf T G De Li St Ke) {c : Nat} (hc : c < 108) : InvP K D L (upd S c (nI 1)) sf T G De Li (upd St c (nI 1)) Ke := by
  obtain ⟨⟨kn, dn, ln, sn, hk, hd, hl, hs, b1, b2, b3, b4, b5⟩, e1, e2, e3, e4⟩ := hP.at hc
  have h := hP.one hc (k := K c) (d := D c) (l := L c) (s := nI 1) ⟨kn, dn, ln, 1, hk, hd, hl, rfl, b1, b2, b3, by omega, b5⟩
  rw [up_same, up_same, up_same, ← e1, ← e2, ← e3, up_same, up_same, up_same] at h
  exact h
theorem sd_lp {n pl x : Nat} (hn : n ≤ 8) (hpl : pl < 3) {sp to wc wt : Nat → Int32} (hw : wOk sp to wc wt n pl) {fi la mf ml : Nat → Int32} (hr : ∀ j, j < n → mf j = fi j ∧ ml j = la j) (x2 : Int32) (u1 : Int32 × (Nat → Int32) × (Nat → Int32) × (Nat → Int32) × (Nat → Int32) × Int32 × (Nat → Int32) × Int32 × Int32 × (Nat → Int32) × (Nat → Int32)) (q1 : u1.2.2.2.2.2.2.1 x2.toNatClampNeg = nI x) (q2 : u1.2.2.2.1 = mf) (q3 : u1.2.2.2.2.1 = ml) (k17 : Int32 → Int32 → (Nat → Int32) → (Nat → Int32) → (Nat → Int32) → Option (Int32 × (Nat → Int32) × (Nat → Int32) × (Nat → Int32) × Int32 × (Nat → Int32) × (Nat → Int32) × Int32 × (Nat → Int32) × (Nat → Int32) × Int32 × Int32 × (Nat → Int32) × (Nat → Int32))) (u7 : (Nat → Int32) × (Nat → Int32)) : ∀ (m fu fu' j : Nat) (S St : Nat → Int32), InvP K D L S sf T G De Li St Ke → j + m = n → m < fu → m < fu' → ∃ S' St', fX3_stopDue_2 sp fi la (nI n) (nI x) fu (nI j) S = some S' ∧ fX5_work_55 (nI n) wc u1 x2 k17 u7 fu' (nI j) St = fX5_work_118 u1 x2 k17 u7 St' ∧ InvP K D L S' sf T G De Li St' Ke := by
  intro m
  induction m with
  | zero =>
    intro fu fu' j S St hP h1 h2 h3
    obtain ⟨fu, rfl⟩ := n_suc h2
    obtain ⟨fu', rfl⟩ := n_suc h3
    have hc : nI n ≤ nI j := by rw [q_le (by omega) (by omega)]; omega
    rw [fX3_stopDue_2, fX5_work_55, if_pos hc, if_pos hc]
    exact ⟨S, St, rfl, rfl, hP⟩
  | succ m ih =>
    intro fu fu' j S St hP h1 h2 h3
    obtain ⟨fu, rfl⟩ := n_suc h2
    obtain ⟨fu', rfl⟩ := n_suc h3
    obtain ⟨w1, w2, c, t, w3, w4, w5, w6⟩ := hw j (by omega)
    obtain ⟨r1, r2⟩ := hr j (by omega)
    have hj : c < 108 := by omega
    obtain ⟨⟨kn, dn, ln, sn, hk, hd, hl, hs, c1, c2, c3, c4, c5⟩, e1, e2, e3, e4⟩ := hP.at hj
    have hcc : ¬ nI n ≤ nI j := by rw [q_le (by omega) (by omega)]; omega
    have i8 : inb (nI j) 8 = true := by rw [q_inb (by omega)]; omega
    have i1 : inb (nI c) 108 = true := by rw [q_inb (by omega)]; omega
    have i6 : inb (nI c) 648 = true := by rw [q_inb (by omega)]; omega
    rw [fX3_stopDue_2, fX5_work_55, if_neg hcc, if_neg hcc, if_pos i8, if_pos i8, q1, q2, q3, q_cl (by omega), w1, w3, if_pos i1, if_pos i6, q_cl (by omega), r1, r2, in5]
    unfold fX3_stopDue_42 fX5_work_106 fX5_work_111
    rw [q_cl (by omega), w1, w3, q_cl (by omega), q_and0, q_and1, nx]
    simp only [Option.bind_some]
    by_cases h : nI x < fi j ∨ la j < nI x
    · rw [if_pos h, if_pos c00]
      have ek : (if nI x < fi j then fX3_stopDue_2 sp fi la (nI n) (nI x) fu (nI (j + 1)) S else if la j < nI x then fX3_stopDue_2 sp fi la (nI n) (nI x) fu (nI (j + 1)) S else fX3_stopDue_2 sp fi la (nI n) (nI x) fu (nI (j + 1)) (upd S c (nI 1))) = fX3_stopDue_2 sp fi la (nI n) (nI x) fu (nI (j + 1)) S := by
        by_cases h5 : nI x < fi j
        · rw [if_pos h5]
        · rw [if_neg h5, if_pos (h.resolve_left h5)]
      rw [ek]
      by_cases h0 : St c = 0
      · rw [if_pos h0, show upd St c (nI 0) = St by rw [← l0, ← h0, up_same]]
        exact ih fu fu' (j + 1) S St hP (by omega) (by omega) (by omega)
      · rw [if_neg h0]
        have hs1 : sn = 1 := by
          rw [e4, hs, l0, q_eq (by omega) (by omega)] at h0
          omega
        rw [show upd St c (nI 1) = St by rw [← hs1, ← hs, ← e4, up_same]]
        exact ih fu fu' (j + 1) S St hP (by omega) (by omega) (by omega)
    · rw [if_neg h, if_neg c10, if_neg (fun h5 => h (Or.inl h5)), if_neg (fun h5 => h (Or.inr h5)), ite_self]
      exact ih fu fu' (j + 1) _ _ (hP.stp hj) (by omega) (by omega) (by omega)
theorem fu_lp {a c : Nat} (ha : a ≤ 9) (hc : c ≤ 4) {n pl N : Nat} (hn : n ≤ 8) (hpl : pl < 3) (hN : N ≤ n) {sp to wc wt : Nat → Int32} (hw : wOk sp to wc wt n pl) {fi la mf ml wm mi me tr : Nat → Int32} (hr : ∀ j, j < n → mf j = fi j ∧ ml j = la j) (hM : Mi wm mi N 201) (De0 Li0 : Nat → Int32) (y1 y2 : Int32) : ∀ (m fu fu' i now : Nat) (D L S De Li St : Nat → Int32), InvP K D L S sf T G De Li St Ke → i + m = N → m < fu → m < fu' → (∀ i', i ≤ i' → i' < N → now ≤ dc (wm i')) → ∃ D' L' S' De' Li' St', fX3_fulfil_5 sp fi la wm (nI n) (nI N) K (nI (bt a c)) fu (nI now) (nI i) D L S = some (0, D', L', S') ∧ fX5_work_17 G (nI a) (nI c) (nI n) wc Fo (1, De0, Li0, mf, ml, nI N, mi, y1, y2, me, tr) fu' (nI now) (nI i) De Li St = some (nI N, De', Li', St', 0, mf, ml, nI N, mi, Fo, y1, y2, me, tr) ∧ InvP K D' L' S' sf T G De' Li' St' Ke := by
  intro m
  induction m with
  | zero =>
    intro fu fu' i now D L S De Li St hP h1 h2 h3 h4
    obtain ⟨fu, rfl⟩ := n_suc h2
    obtain ⟨fu', rfl⟩ := n_suc h3
    have hc : nI N ≤ nI i := by rw [q_le (by omega) (by omega)]; omega
    rw [fX3_fulfil_5, fX5_work_17, if_pos hc]
    dsimp only
    rw [if_pos hc]
    exact ⟨D, L, S, De, Li, St, rfl, rfl, hP⟩
  | succ m ih =>
    intro fu fu' i now D L S De Li St hP h1 h2 h3 h4
    obtain ⟨fu, rfl⟩ := n_suc h2
    obtain ⟨fu', rfl⟩ := n_suc h3
    have hcc : ¬ nI N ≤ nI i := by rw [q_le (by omega) (by omega)]; omega
    have i8 : inb (nI i) 8 = true := by rw [q_inb (by omega)]; omega
    obtain ⟨w1, w2, j, t, w3, w4, w5, w6⟩ := hw 0 (by omega)
    obtain ⟨m1, x, m2, m3, m4, m5⟩ := hM i (by omega)
    have hnow := h4 i (Nat.le_refl _) (by omega)
    rw [m2, dc_nI (by omega)] at hnow
    rw [fX3_fulfil_5, fX5_work_17, if_neg hcc]
    dsimp only
    rw [if_neg hcc, if_pos in08, if_pos in08, if_pos i8, if_pos i8, show ((0 : Int32).toNatClampNeg) = 0 from rfl, w1, w3, l36, q_div (by omega) (by omega) (by omega), w4, q_cl (by omega), m1, m2, q_sub hnow]
    obtain ⟨D', L', De', Li', r1, r2, hP'⟩ := bath_ok hP hpl ha hc (show x - now ≤ 200 by omega)
    rw [r1, r2]
    simp only [Option.bind_some]
    unfold fX3_stopDue
    obtain ⟨S', St', t1, t2, hP''⟩ := sd_lp hn hpl hw hr (nI i) (1, De0, Li0, mf, ml, nI N, mi, y1, y2, me, tr) (x := x) (by show mi (nI i).toNatClampNeg = nI x; rw [q_cl (by omega), m1, m2]) rfl rfl (fX5_work_17 G (nI a) (nI c) (nI n) wc Fo (1, De0, Li0, mf, ml, nI N, mi, y1, y2, me, tr) fu') (De', Li') n 100000 100000 0 S St hP' (by omega) (by omega) (by omega)
    rw [← l0] at t1 t2
    rw [t1, t2]
    simp only [Option.bind_some]
    unfold fX5_work_118
    dsimp only
    rw [q_cl (by omega), m1, m2, nx]
    refine ih fu fu' (i + 1) x D' L' S' De' Li' St' hP'' (by omega) (by omega) (by omega) (fun i' g1 g2 => ?_)
    obtain ⟨-, y, k1, k2, k3, k4⟩ := hM i' g2
    have := k4 i (by omega)
    rw [m2, dc_nI (by omega)] at this
    rw [k1, dc_nI (by omega)]
    exact this
theorem op_work (hP : InvP K D L S sf T G De Li St Ke) {st he ms mh : Int32} (hB : InvB st he ms mh) {sp to : Nat → Int32} {sz : Int32} {wc wt : Nat → Int32} {w : Int32} (hW : InvW sp to sz wc wt w) (hF : InvF F Fo) (fi la wm : Nat → Int32) (pn ba : Int32) (mf ml mi me tr : Nat → Int32) (y1 y2 : Int32) : ∃ u v, fX4_work K D L S sp to fi la wm sz pn F st he = some u ∧ fX5_work G De Li St ms mh w wc wt mf ml ba mi Fo y1 y2 me tr = some v ∧ v.1 = u.1 ∧ InvP K u.2.1 u.2.2.1 u.2.2.2.1 sf T G v.2.1 v.2.2.1 v.2.2.2.1 Ke ∧ InvW sp to u.2.2.2.2.2.2.2.1 wc wt v.2.2.2.2.1 ∧ InvF u.2.2.2.2.2.2.2.2.2 v.2.2.2.2.2.2.2.2.2.1 := by
  obtain ⟨rfl, rfl, a, c, rfl, rfl, b1, b2, b3⟩ := hB
  have hW' := hW
  obtain ⟨rfl, n, pl, rfl, hn, hpl, hw⟩ := hW
  unfold fX4_work fX5_work
  rw [fd2, fs2, bi4 b2 b3]
  simp only [Option.bind_some]
  rcases plan_ok hP b2 b3 hn hpl hw fi la wm pn ba mf ml mi me tr y1 y2 with ⟨u, v, s1, s2, s3, s4, s5, s6⟩ | ⟨fi', la', wm', mf', ml', mi', me', tr', y1', y2', N, s1, s2, s3, s4, s5⟩
  · rw [s1, s2]
    simp only [Option.bind_some]
    rw [if_pos s3, if_pos s4]
    refine ⟨_, _, rfl, rfl, rfl, ?_, hW', hF.fnd (by decide)⟩
    show InvP K D L S sf T G v.2.1 v.2.2.1 St Ke
    rw [s5, s6]; exact hP
  · rw [s1, s2]
    simp only [Option.bind_some]
    rw [if_neg c10, if_neg c10]
    unfold fX3_fulfil
    obtain ⟨D', L', S', De', Li', St', t1, t2, hP'⟩ := fu_lp (Fo := Fo) (me := me') (tr := tr') b2 b3 hn hpl s3 hw s4 s5 De Li y1' y2' N 100000 100000 0 0 D L S De Li St hP (by omega) (by omega) (by omega) (fun _ _ _ => Nat.zero_le _)
    rw [← l0] at t1 t2
    rw [t1, t2]
    exact ⟨_, _, rfl, rfl, rfl, hP', ⟨rfl, 0, 0, rfl, by omega, by omega, fun i hi => absurd hi (by omega)⟩, hF⟩
end OPS10
