/-! states: copies and differences -/
def bb1 (x : Int32) : Int32 := x &&& 1
def bbI (x : Int32) : Int32 := x
def cp (t : Int32 → Int32) (f g : Nat → Int32) (i m : Nat) : Nat → Int32 := fun j => if i ≤ j ∧ j < i + m then t (g j) else f j
theorem cp_0 (t : Int32 → Int32) (f g : Nat → Int32) (i : Nat) : cp t f g i 0 = f := by funext j; exact if_neg (by omega)
theorem cp_s {t : Int32 → Int32} {f g : Nat → Int32} {i : Nat} (m : Nat) {x : Int32} (hx : x = t (g i)) : cp t (upd f i x) g (i + 1) m = cp t f g i (m + 1) := by
  funext j
  unfold cp
  by_cases h : i + 1 ≤ j ∧ j < i + 1 + m
  · rw [if_pos h, if_pos (by omega)]
  · rw [if_neg h]
    by_cases e : j = i
    · rw [e, up_at, if_pos (by omega), hx]
    · rw [up_ne _ _ e, if_neg (by omega)]
theorem cp_cp (t : Int32 → Int32) (f g : Nat → Int32) (i m m' : Nat) : cp t (cp t f g i m) g (i + m) m' = cp t f g i (m + m') := by
  funext j
  unfold cp
  by_cases h : i + m ≤ j ∧ j < i + m + m'
  · rw [if_pos h, if_pos (by omega)]
  · rw [if_neg h]
    by_cases h2 : i ≤ j ∧ j < i + m
    · rw [if_pos h2, if_pos (by omega)]
    · rw [if_neg h2, if_neg (by omega)]
theorem cp4 (oK oD oL oS : Nat → Int32) {p : Nat} (hp : p < 3) : ∀ (m n i : Nat) (K D L S : Nat → Int32), i + m = 36 * p + 36 → m < n → fX1_copyPlate_5 oK oD oL oS (nI p) n (nI i) K D L S = some (cp bbI K oK i m, cp bbI D oD i m, cp bbI L oL i m, cp bb1 S oS i m) := by
  intro m
  induction m with
  | zero =>
    intro n i K D L S h1 h2
    obtain ⟨n, rfl⟩ := n_suc h2
    rw [fX1_copyPlate_5, e4h, if_pos (by rw [q_le (by omega) (by omega)]; omega), cp_0, cp_0, cp_0, cp_0]
  | succ m ih =>
    intro n i K D L S h1 h2
    obtain ⟨n, rfl⟩ := n_suc h2
    rw [fX1_copyPlate_5, e4h, if_neg (by rw [q_le (by omega) (by omega)]; omega), if_pos (by rw [q_inb (by omega)]; omega), q_cl (by omega), nx, ih n (i + 1) _ _ _ _ (by omega) (by omega), cp_s (t := bbI) m (x := oK i) rfl, cp_s (t := bbI) m (x := oD i) rfl, cp_s (t := bbI) m (x := oL i) rfl, cp_s (t := bb1) m (x := oS i &&& 1) rfl]
theorem cpp4 (K D L S oK oD oL oS : Nat → Int32) {p : Nat} (hp : p < 3) : fX1_copyPlate K D L S oK oD oL oS (nI p) = some (cp bbI K oK (36 * p) 36, cp bbI D oD (36 * p) 36, cp bbI L oL (36 * p) 36, cp bb1 S oS (36 * p) 36) := by
  unfold fX1_copyPlate
  rw [s4h]
  exact cp4 oK oD oL oS hp 36 100000 (36 * p) K D L S (by omega) (by omega)
def rc (t : Int32 → Int32) (f : Nat → Int32) (a b x m : Nat) : Nat → Int32 := fun j => if b + x ≤ j ∧ j < b + x + m then t (f (a + (j - b))) else f j
theorem rc_0 (t : Int32 → Int32) (f : Nat → Int32) (a b x : Nat) : rc t f a b x 0 = f := by funext j; exact if_neg (by omega)
theorem rc_s {t : Int32 → Int32} {f : Nat → Int32} {a b x : Nat} (m : Nat) {v : Int32} (hv : v = t (f (a + x))) (hd : a + 36 ≤ b ∨ b + 36 ≤ a) (hm : x + 1 + m ≤ 36) : rc t (upd f (b + x) v) a b (x + 1) m = rc t f a b x (m + 1) := by
  funext j
  unfold rc
  by_cases h : b + (x + 1) ≤ j ∧ j < b + (x + 1) + m
  · rw [if_pos h, if_pos (by omega), up_ne _ _ (by omega)]
  · rw [if_neg h]
    by_cases e : j = b + x
    · rw [e, up_at, if_pos (by omega), hv, show b + x - b = x by omega]
    · rw [up_ne _ _ e, if_neg (by omega)]
theorem cp5 {a b : Nat} (ha : a + 36 ≤ 648) (hb : b + 36 ≤ 648) (hd : a + 36 ≤ b ∨ b + 36 ≤ a) : ∀ (m n x : Nat) (G De Li St : Nat → Int32), x + m = 36 → m < n → fX5_copies_2 (nI a) (nI b) n (nI x) G De Li St = some (rc bbI G a b x m, rc bbI De a b x m, rc bbI Li a b x m, rc bb1 St a b x m) := by
  intro m
  induction m with
  | zero =>
    intro n x G De Li St h1 h2
    obtain ⟨n, rfl⟩ := n_suc h2
    rw [fX5_copies_2, if_pos (by rw [l36, q_le (by omega) (by omega)]; omega), rc_0, rc_0, rc_0, rc_0]
  | succ m ih =>
    intro n x G De Li St h1 h2
    obtain ⟨n, rfl⟩ := n_suc h2
    rw [fX5_copies_2, if_neg (by rw [l36, q_le (by omega) (by omega)]; omega), nI_add, nI_add, if_pos (by rw [q_inb (by omega)]; omega), if_pos (by rw [q_inb (by omega)]; omega), q_cl (by omega), q_cl (by omega), nx, ih n (x + 1) _ _ _ _ (by omega) (by omega), rc_s (t := bbI) (x := x) m (v := G (a + x)) rfl hd (by omega), rc_s (t := bbI) (x := x) m (v := De (a + x)) rfl hd (by omega), rc_s (t := bbI) (x := x) m (v := Li (a + x)) rfl hd (by omega), rc_s (t := bb1) (x := x) m (v := St (a + x) &&& 1) rfl hd (by omega)]
theorem cpp5 (G De Li St : Nat → Int32) {a b : Nat} (ha : a + 36 ≤ 648) (hb : b + 36 ≤ 648) (hd : a + 36 ≤ b ∨ b + 36 ≤ a) : fX5_copies G De Li St (nI a) (nI b) = some (rc bbI G a b 0 36, rc bbI De a b 0 36, rc bbI Li a b 0 36, rc bb1 St a b 0 36) :=
  cp5 ha hb hd 36 100000 0 G De Li St (by omega) (by omega)
theorem st5 (k : Nat) : fX5_state (nI k) = some (nI (108 + 108 * k)) := by
  unfold fX5_state
  rw [l108, pk_mul, nI_add]
def df (K D S K' D' S' : Nat → Int32) (i : Nat) : Nat → Nat
  | 0 => 0
  | m + 1 => (if K i = K' i ∧ D i = D' i ∧ S i = S' i then 0 else 1) + df K D S K' D' S' (i + 1) m
theorem df_congr {K D S K' D' S' k d s k' d' s' : Nat → Int32} : ∀ (m i : Nat), (∀ j, i ≤ j → j < i + m → k j = K j ∧ d j = D j ∧ s j = S j ∧ k' j = K' j ∧ d' j = D' j ∧ s' j = S' j) → df k d s k' d' s' i m = df K D S K' D' S' i m
  | 0, _, _ => rfl
  | m + 1, i, h => by
    obtain ⟨h1, h2, h3, h4, h5, h6⟩ := h i (Nat.le_refl _) (by omega)
    rw [df, df, h1, h2, h3, h4, h5, h6, df_congr m (i + 1) (fun j h1 h2 => h j (by omega) (by omega))]
theorem di4 (K D S oK oD oS : Nat → Int32) {p : Nat} (hp : p < 3) : ∀ (m n i a : Nat), i + m = 36 * p + 36 → m < n → fX1_differences_8 K D S oK oD oS (nI p) n (nI a) (nI i) = some (nI (a + df K D S oK oD oS i m)) := by
  intro m
  induction m with
  | zero =>
    intro n i a h1 h2
    obtain ⟨n, rfl⟩ := n_suc h2
    rw [fX1_differences_8, e4h, if_pos (by rw [q_le (by omega) (by omega)]; omega)]
    rfl
  | succ m ih =>
    intro n i a h1 h2
    obtain ⟨n, rfl⟩ := n_suc h2
    rw [fX1_differences_8, e4h, if_neg (by rw [q_le (by omega) (by omega)]; omega), if_pos (by rw [q_inb (by omega)]; omega), q_cl (by omega)]
    unfold fX1_differences_70 fX1_differences_73
    rw [nx, nx, ih n (i + 1) a (by omega) (by omega), ih n (i + 1) (a + 1) (by omega) (by omega), df]
    by_cases h1 : K i = oK i
    · rw [if_pos h1]
      by_cases h2 : D i = oD i
      · rw [if_pos h2]
        by_cases h3 : S i = oS i
        · rw [if_pos h3, if_pos ⟨h1, h2, h3⟩, Nat.zero_add]
        · rw [if_neg h3, if_neg (fun h => h3 h.2.2)]; exact congrArg (fun z => some (nI z)) (by omega)
      · rw [if_neg h2, if_neg (fun h => h2 h.2.1)]; exact congrArg (fun z => some (nI z)) (by omega)
    · rw [if_neg h1, if_neg (fun h => h1 h.1)]; exact congrArg (fun z => some (nI z)) (by omega)
theorem di5 (G De St : Nat → Int32) {p k : Nat} (hp : p < 3) (hk : k < 4) : ∀ (m n i a : Nat), i + m = 36 * p + 36 → m < n → fX5_differ_8 G De St (nI p) (nI k) n (nI a) (nI i) = some (nI (a + df G De St (fun j => G (108 + 108 * k + j)) (fun j => De (108 + 108 * k + j)) (fun j => St (108 + 108 * k + j)) i m)) := by
  intro m
  induction m with
  | zero =>
    intro n i a h1 h2
    obtain ⟨n, rfl⟩ := n_suc h2
    rw [fX5_differ_8, e5h, if_pos (by rw [q_le (by omega) (by omega)]; omega)]
    rfl
  | succ m ih =>
    intro n i a h1 h2
    obtain ⟨n, rfl⟩ := n_suc h2
    rw [fX5_differ_8, e5h, if_neg (by rw [q_le (by omega) (by omega)]; omega), st5]
    simp only [Option.bind_some]
    rw [nI_add, if_pos (by rw [q_inb (by omega)]; omega), if_pos (by rw [q_inb (by omega)]; omega), q_cl (by omega), q_cl (by omega)]
    unfold fX5_differ_81 fX5_differ_86
    rw [nx, nx, show nI a + (0 : Int32) = nI a by rw [l0, nI_add]; rfl, ih n (i + 1) a (by omega) (by omega), ih n (i + 1) (a + 1) (by omega) (by omega), df]
    by_cases h1 : G i = G (108 + 108 * k + i)
    · rw [if_pos h1]
      by_cases h2 : De i = De (108 + 108 * k + i)
      · rw [if_pos h2]
        by_cases h3 : St i = St (108 + 108 * k + i)
        · rw [if_pos h3, if_pos ⟨h1, h2, h3⟩, Nat.zero_add]
        · rw [if_neg h3, if_neg (fun h => h3 h.2.2)]; exact congrArg (fun z => some (nI z)) (by omega)
      · rw [if_neg h2, if_neg (fun h => h2 h.2.1)]; exact congrArg (fun z => some (nI z)) (by omega)
    · rw [if_neg h1, if_neg (fun h => h1 h.1)]; exact congrArg (fun z => some (nI z)) (by omega)
section OPS5
variable {K D L S : Nat → Int32} {sf : Nat → Option Nat} {T : Nat → Nat → Nat → Int32} {G De Li St Ke F Fo : Nat → Int32}
/-- is the call one that finds BEYOND -/
def bad2 (p q : Int32) : Prop := (p < 0 ∨ 2 < p) ∨ (q < 0 ∨ 3 < q)
theorem bad2_of {p q : Int32} (h : ¬ bad2 p q) : ∃ a k : Nat, a < 3 ∧ k < 4 ∧ p = nI a ∧ q = nI k := by
  obtain ⟨a, ha, rfl⟩ := pl_of (fun h1 => h (Or.inl h1))
  obtain ⟨k, hk, rfl⟩ := rg_of (m := 3) (by omega) rfl (fun h1 => h (Or.inr h1))
  exact ⟨a, k, ha, by omega, rfl, rfl⟩
theorem op_changed_b (hF : InvF F Fo) {p q : Int32} (h : bad2 p q) : ∃ u v, fX4_changed_b F p q = some u ∧ fX5_changed G De St Ke Fo p q = some v ∧ v.1 = u.1 ∧ InvF u.2 v.2 := by
  unfold fX4_changed_b fX5_changed fX4_changed_b_14 fX5_changed_16
  rw [ip4, ip5, is4, in5, fd1, fs1]
  simp only [Option.bind_some]
  by_cases h1 : p < 0 ∨ 2 < p
  · rw [if_pos h1, if_pos c00, if_pos c00]; exact ⟨_, _, rfl, rfl, rfl, hF.fnd (by decide)⟩
  · rw [if_neg h1, if_neg c10, if_neg c10, if_pos (h.resolve_left h1), if_pos c00, if_pos c00]; exact ⟨_, _, rfl, rfl, rfl, hF.fnd (by decide)⟩
theorem ok_a {a : Nat} (ha : a < 3) : ¬ (nI a < 0 ∨ 2 < nI a) := fun h => h.elim (q_neg (by omega)) (fun h => by rw [l2, q_lt (by omega) (by omega)] at h; omega)
theorem ok_k {k : Nat} (hk : k < 4) : ¬ (nI k < 0 ∨ 3 < nI k) := fun h => h.elim (q_neg (by omega)) (fun h => by rw [l3, q_lt (by omega) (by omega)] at h; omega)
theorem op_changed_n (hP : InvP K D L S sf T G De Li St Ke) (hF : InvF F Fo) {a k : Nat} (ha : a < 3) (hk : k < 4) (hs : sf k = none) : ∃ u v, fX4_changed_n F (nI a) (nI k) = some u ∧ fX5_changed G De St Ke Fo (nI a) (nI k) = some v ∧ v.1 = u.1 ∧ InvF u.2 v.2 := by
  unfold fX4_changed_n fX5_changed
  rw [ip4, ip5, is4, in5, fd2, fs2]
  simp only [Option.bind_some]
  rw [if_neg (ok_a ha), if_neg c10, if_neg c10, if_neg (ok_k hk), if_neg c10, if_neg c10, if_pos (by rw [q_inb (by omega)]; exact hk), if_pos (by rw [q_inb (by omega)]; exact hk), q_cl (by omega), if_pos ((hP.kept k hk).mp hs)]
  exact ⟨_, _, rfl, rfl, rfl, hF.fnd (by decide)⟩
theorem InvP.st (hP : InvP K D L S sf T G De Li St Ke) {k : Nat} (hk : k < 4) (hs : sf k ≠ none) : Ke k = 1 ∧ InvC (T k 0) (T k 1) (T k 2) (T k 3) G De Li St (108 + 108 * k) := (hP.2 k hk).elim (fun h => absurd h.1 hs) (fun h => h.2)
theorem df_same (hP : InvP K D L S sf T G De Li St Ke) {a k : Nat} (ha : a < 3) (hk : k < 4) (hs : sf k ≠ none) : df G De St (fun j => G (108 + 108 * k + j)) (fun j => De (108 + 108 * k + j)) (fun j => St (108 + 108 * k + j)) (36 * a) 36 = df K D S (T k 0) (T k 1) (T k 3) (36 * a) 36 := by
  refine df_congr 36 (36 * a) (fun j h1 h2 => ?_)
  obtain ⟨-, m1, m2, m3, m4⟩ := hP.at (i := j) (by omega)
  obtain ⟨-, s1, s2, s3, s4⟩ := (hP.st hk hs).2 j (by omega)
  exact ⟨m1, m2, m4, s1, s2, s4⟩
theorem op_changed_s (hP : InvP K D L S sf T G De Li St Ke) {a k : Nat} (ha : a < 3) (hk : k < 4) (hs : sf k ≠ none) : ∃ u v, fX4_changed_s K D S (T k 0) (T k 1) (T k 3) (nI a) (nI k) = some u ∧ fX5_changed G De St Ke Fo (nI a) (nI k) = some v ∧ v.1 = u ∧ v.2 = Fo := by
  unfold fX4_changed_s fX5_changed fX1_differences fX5_differ
  rw [ip4, ip5, is4, in5]
  simp only [Option.bind_some]
  rw [if_neg (ok_a ha), if_neg c10, if_neg c10, if_neg (ok_k hk), if_neg c10, if_neg c10, if_pos (by rw [q_inb (by omega)]; exact hk), if_pos (by rw [q_inb (by omega)]; exact hk), q_cl (by omega), if_neg (by rw [(hP.st hk hs).1]; decide), s4h, s5h, l0, di4 K D S _ _ _ ha 36 100000 (36 * a) 0 (by omega) (by omega), di5 G De St ha hk 36 100000 (36 * a) 0 (by omega) (by omega), df_same hP ha hk hs]
  exact ⟨_, _, rfl, rfl, rfl, rfl⟩
theorem op_back_b (hP : InvP K D L S sf T G De Li St Ke) (hF : InvF F Fo) {p q : Int32} (h : bad2 p q) : ∃ u v, fX4_back_b F p q = some u ∧ fX5_back G De Li St Ke Fo p q = some v ∧ v.1 = u.1 ∧ InvP K D L S sf T v.2.1 v.2.2.1 v.2.2.2.1 v.2.2.2.2.1 Ke ∧ InvF u.2 v.2.2.2.2.2 := by
  unfold fX4_back_b fX5_back fX4_back_b_14 fX5_back_16
  rw [ip4, ip5, is4, in5, fd1, fs1]
  simp only [Option.bind_some]
  by_cases h1 : p < 0 ∨ 2 < p
  · rw [if_pos h1, if_pos c00, if_pos c00]; exact ⟨_, _, rfl, rfl, rfl, hP, hF.fnd (by decide)⟩
  · rw [if_neg h1, if_neg c10, if_neg c10, if_pos (h.resolve_left h1), if_pos c00, if_pos c00]; exact ⟨_, _, rfl, rfl, rfl, hP, hF.fnd (by decide)⟩
theorem op_back_n (hP : InvP K D L S sf T G De Li St Ke) (hF : InvF F Fo) {a k : Nat} (ha : a < 3) (hk : k < 4) (hs : sf k = none) : ∃ u v, fX4_back_n F (nI a) (nI k) = some u ∧ fX5_back G De Li St Ke Fo (nI a) (nI k) = some v ∧ v.1 = u.1 ∧ InvP K D L S sf T v.2.1 v.2.2.1 v.2.2.2.1 v.2.2.2.2.1 Ke ∧ InvF u.2 v.2.2.2.2.2 := by
  unfold fX4_back_n fX5_back
  rw [ip4, ip5, is4, in5, fd2, fs2]
  simp only [Option.bind_some]
  rw [if_neg (ok_a ha), if_neg c10, if_neg c10, if_neg (ok_k hk), if_neg c10, if_neg c10, if_pos (by rw [q_inb (by omega)]; exact hk), if_pos (by rw [q_inb (by omega)]; exact hk), q_cl (by omega), if_pos ((hP.kept k hk).mp hs)]
  exact ⟨_, _, rfl, rfl, rfl, hP, hF.fnd (by decide)⟩
theorem b1_ok {s : Nat} (h : s ≤ 1) : bb1 (nI s) = nI s := by
  rcases (show s = 0 ∨ s = 1 by omega) with rfl | rfl <;> rfl
theorem cellOk.b1 {k d l s : Int32} (h : cellOk k d l s) : bb1 s = s := by
  obtain ⟨kn, dn, ln, sn, hk, hd, hl, hs, b1, b2, b3, b4, b5⟩ := h
  rw [hs, b1_ok b4]
theorem op_back_s (hP : InvP K D L S sf T G De Li St Ke) {a k : Nat} (ha : a < 3) (hk : k < 4) (hs : sf k ≠ none) : ∃ u v, fX4_back_s K D L S (T k 0) (T k 1) (T k 2) (T k 3) (nI a) (nI k) = some u ∧ fX5_back G De Li St Ke Fo (nI a) (nI k) = some v ∧ v.1 = u.1 ∧ InvP u.2.1 u.2.2.1 u.2.2.2.1 u.2.2.2.2 sf T v.2.1 v.2.2.1 v.2.2.2.1 v.2.2.2.2.1 Ke ∧ v.2.2.2.2.2 = Fo := by
  unfold fX4_back_s fX5_back fX1_differences fX5_differ
  rw [ip4, ip5, is4, in5, st5]
  simp only [Option.bind_some]
  rw [if_neg (ok_a ha), if_neg c10, if_neg c10, if_neg (ok_k hk), if_neg c10, if_neg c10, if_pos (by rw [q_inb (by omega)]; exact hk), if_pos (by rw [q_inb (by omega)]; exact hk), q_cl (by omega), if_neg (by rw [(hP.st hk hs).1]; decide), s4h, s5h, l0, di4 K D S _ _ _ ha 36 100000 (36 * a) 0 (by omega) (by omega), di5 G De St ha hk 36 100000 (36 * a) 0 (by omega) (by omega), df_same hP ha hk hs, cpp4 K D L S _ _ _ _ ha, nI_add, cpp5 G De Li St (a := 108 + 108 * k + 36 * a) (b := 36 * a) (by omega) (by omega) (by omega)]
  refine ⟨_, _, rfl, rfl, rfl, ?_, rfl⟩
  refine hP.main (fun i hi => ?_) (fun i h1 h2 => ?_)
  · show cellOk (cp bbI K (T k 0) (36 * a) 36 i) (cp bbI D (T k 1) (36 * a) 36 i) (cp bbI L (T k 2) (36 * a) 36 i) (cp bb1 S (T k 3) (36 * a) 36 i) ∧ rc bbI G (108 + 108 * k + 36 * a) (36 * a) 0 36 (0 + i) = _ ∧ rc bbI De (108 + 108 * k + 36 * a) (36 * a) 0 36 (0 + i) = _ ∧ rc bbI Li (108 + 108 * k + 36 * a) (36 * a) 0 36 (0 + i) = _ ∧ rc bb1 St (108 + 108 * k + 36 * a) (36 * a) 0 36 (0 + i) = _
    obtain ⟨m0, m1, m2, m3, m4⟩ := hP.at hi
    obtain ⟨s0, s1, s2, s3, s4⟩ := (hP.st hk hs).2 i hi
    unfold cp rc
    by_cases h : 36 * a ≤ i ∧ i < 36 * a + 36
    · have h' : 36 * a + 0 ≤ 0 + i ∧ 0 + i < 36 * a + 0 + 36 := by omega
      simp only [if_pos h, if_pos h', show 108 + 108 * k + 36 * a + (0 + i - 36 * a) = 108 + 108 * k + i by omega]
      rw [s0.b1, s1, s2, s3, s4, s0.b1]
      exact ⟨s0, rfl, rfl, rfl, rfl⟩
    · have h' : ¬ (36 * a + 0 ≤ i ∧ i < 36 * a + 0 + 36) := by omega
      simp only [Nat.zero_add, if_neg h, if_neg h']
      exact ⟨m0, m1, m2, m3, m4⟩
  · have h' : ¬ (36 * a + 0 ≤ i ∧ i < 36 * a + 0 + 36) := by omega
    exact ⟨if_neg h', if_neg h', if_neg h', if_neg h'⟩
/-! keeping -/
def tset (T : Nat → Nat → Nat → Int32) (k : Nat) (a b c d : Nat → Int32) : Nat → Nat → Nat → Int32 := fun k' c' => if k' = k then (if c' = 0 then a else if c' = 1 then b else if c' = 2 then c else d) else T k' c'
def RC (t : Int32 → Int32) (f : Nat → Int32) (o i m : Nat) : Nat → Int32 := fun j => if o + i ≤ j ∧ j < o + i + m then t (f (j - o)) else f j
theorem RC_0 (t : Int32 → Int32) (f : Nat → Int32) (o i : Nat) : RC t f o i 0 = f := by funext j; exact if_neg (by omega)
theorem rc_RC (t : Int32 → Int32) (f : Nat → Int32) (o x : Nat) : rc t f (36 * x) (o + 36 * x) 0 36 = RC t f o (36 * x) 36 := by
  funext j
  unfold rc RC
  by_cases h : o + 36 * x ≤ j ∧ j < o + 36 * x + 36
  · rw [if_pos (by omega), if_pos h, show 36 * x + (j - (o + 36 * x)) = j - o by omega]
  · rw [if_neg (by omega), if_neg h]
theorem RC_RC (t : Int32 → Int32) (f : Nat → Int32) {o : Nat} (i m m' : Nat) (h0 : i + m + m' ≤ o) : RC t (RC t f o i m) o (i + m) m' = RC t f o i (m + m') := by
  funext j
  unfold RC
  by_cases h : o + (i + m) ≤ j ∧ j < o + (i + m) + m'
  · rw [if_pos h, if_neg (show ¬ (o + i ≤ j - o ∧ j - o < o + i + m) by omega), if_pos (by omega)]
  · rw [if_neg h]
    by_cases h2 : o + i ≤ j ∧ j < o + i + m
    · rw [if_pos h2, if_pos (by omega)]
    · rw [if_neg h2, if_neg (by omega)]
theorem kp4s (K D L S : Nat → Int32) : ∀ (m n x : Nat) (a b c d : Nat → Int32), x + m = 3 → m < n → fX4_keep_s_53 K D L S n (nI x) a b c d = fX4_keep_s_75 (cp bbI a K (36 * x) (36 * m)) (cp bbI b D (36 * x) (36 * m)) (cp bbI c L (36 * x) (36 * m)) (cp bb1 d S (36 * x) (36 * m)) := by
  intro m
  induction m with
  | zero =>
    intro n x a b c d h1 h2
    obtain ⟨n, rfl⟩ := n_suc h2
    rw [fX4_keep_s_53, if_pos (by rw [l3, q_le (by omega) (by omega)]; omega), Nat.mul_zero, cp_0, cp_0, cp_0, cp_0]
  | succ m ih =>
    intro n x a b c d h1 h2
    obtain ⟨n, rfl⟩ := n_suc h2
    rw [fX4_keep_s_53, if_neg (by rw [l3, q_le (by omega) (by omega)]; omega), cpp4 _ _ _ _ _ _ _ _ (by omega)]
    simp only [Option.bind_some]
    rw [nx, ih n (x + 1) _ _ _ _ (by omega) (by omega), show 36 * (x + 1) = 36 * x + 36 by omega, cp_cp, cp_cp, cp_cp, cp_cp, show 36 + 36 * m = 36 * (m + 1) by omega]
theorem kp4n (K D L S : Nat → Int32) : ∀ (m n x : Nat) (a b c d : Nat → Int32), x + m = 3 → m < n → fX4_keep_n_53 K D L S n (nI x) a b c d = fX4_keep_n_75 (cp bbI a K (36 * x) (36 * m)) (cp bbI b D (36 * x) (36 * m)) (cp bbI c L (36 * x) (36 * m)) (cp bb1 d S (36 * x) (36 * m)) := by
  intro m
  induction m with
  | zero =>
    intro n x a b c d h1 h2
    obtain ⟨n, rfl⟩ := n_suc h2
    rw [fX4_keep_n_53, if_pos (by rw [l3, q_le (by omega) (by omega)]; omega), Nat.mul_zero, cp_0, cp_0, cp_0, cp_0]
  | succ m ih =>
    intro n x a b c d h1 h2
    obtain ⟨n, rfl⟩ := n_suc h2
    rw [fX4_keep_n_53, if_neg (by rw [l3, q_le (by omega) (by omega)]; omega), cpp4 _ _ _ _ _ _ _ _ (by omega)]
    simp only [Option.bind_some]
    rw [nx, ih n (x + 1) _ _ _ _ (by omega) (by omega), show 36 * (x + 1) = 36 * x + 36 by omega, cp_cp, cp_cp, cp_cp, cp_cp, show 36 + 36 * m = 36 * (m + 1) by omega]
theorem kp5 (Ke Fo : Nat → Int32) {k : Nat} (hk : k < 4) : ∀ (m n x : Nat) (a b c d : Nat → Int32), x + m = 3 → m < n → fX5_keep_17 Ke Fo (nI k) n (nI x) a b c d = fX5_keep_45 Ke Fo (nI k) (RC bbI a (108 + 108 * k) (36 * x) (36 * m)) (RC bbI b (108 + 108 * k) (36 * x) (36 * m)) (RC bbI c (108 + 108 * k) (36 * x) (36 * m)) (RC bb1 d (108 + 108 * k) (36 * x) (36 * m)) := by
  intro m
  induction m with
  | zero =>
    intro n x a b c d h1 h2
    obtain ⟨n, rfl⟩ := n_suc h2
    rw [fX5_keep_17, if_pos (by rw [l3, q_le (by omega) (by omega)]; omega), Nat.mul_zero, RC_0, RC_0, RC_0, RC_0]
  | succ m ih =>
    intro n x a b c d h1 h2
    obtain ⟨n, rfl⟩ := n_suc h2
    rw [fX5_keep_17, if_neg (by rw [l3, q_le (by omega) (by omega)]; omega), st5, s5h]
    simp only [Option.bind_some]
    rw [nI_add, cpp5 a b c d (by omega) (by omega) (by omega)]
    simp only [Option.bind_some]
    rw [rc_RC, rc_RC, rc_RC, rc_RC, nx, ih n (x + 1) _ _ _ _ (by omega) (by omega), show 36 * (x + 1) = 36 * x + 36 by omega, RC_RC _ _ _ _ _ (by omega), RC_RC _ _ _ _ _ (by omega), RC_RC _ _ _ _ _ (by omega), RC_RC _ _ _ _ _ (by omega), show 36 + 36 * m = 36 * (m + 1) by omega]
/-- a state kept: what becomes of the pictures -/
theorem kept_ok (hP : InvP K D L S sf T G De Li St Ke) {k : Nat} (hk : k < 4) (sf' : Nat → Option Nat) (h1 : sf' k ≠ none) (h2 : ∀ i, i ≠ k → sf' i = sf i) (a b c d : Nat → Int32) :
    InvP K D L S sf' (tset T k (cp bbI a K 0 108) (cp bbI b D 0 108) (cp bbI c L 0 108) (cp bb1 d S 0 108)) (RC bbI G (108 + 108 * k) 0 108) (RC bbI De (108 + 108 * k) 0 108) (RC bbI Li (108 + 108 * k) 0 108) (RC bb1 St (108 + 108 * k) 0 108) (upd Ke k (nI 1)) := by
  refine ⟨hP.1.keep (fun i hi => ?_), fun k' hk' => ?_⟩
  · have h' : ¬ (108 + 108 * k + 0 ≤ 0 + i ∧ 0 + i < 108 + 108 * k + 0 + 108) := by omega
    exact ⟨if_neg h', if_neg h', if_neg h', if_neg h'⟩
  · by_cases e : k' = k
    · subst e
      refine Or.inr ⟨h1, up_at _ _ _, fun i hi => ?_⟩
      have h' : 108 + 108 * k' + 0 ≤ 108 + 108 * k' + i ∧ 108 + 108 * k' + i < 108 + 108 * k' + 0 + 108 := by omega
      have h0 : 0 ≤ i ∧ i < 0 + 108 := by omega
      obtain ⟨m0, m1, m2, m3, m4⟩ := hP.at hi
      simp only [tset, if_true, cp, RC, if_pos h', if_pos h0, show 108 + 108 * k' + i - (108 + 108 * k') = i by omega, show ¬ (1 = 0) by omega, show ¬ (2 = 0) by omega, show ¬ (2 = 1) by omega, show ¬ (3 = 0) by omega, show ¬ (3 = 1) by omega, show ¬ (3 = 2) by omega, if_false]
      rw [m0.b1, m1, m2, m3, m4, m0.b1]
      exact ⟨m0, rfl, rfl, rfl, rfl⟩
    · rw [h2 k' e, up_ne _ _ e]
      refine (hP.2 k' hk').imp id (fun ⟨x, y, z⟩ => ⟨x, y, ?_⟩)
      have z' := z.keep (G' := RC bbI G (108 + 108 * k) 0 108) (De' := RC bbI De (108 + 108 * k) 0 108) (Li' := RC bbI Li (108 + 108 * k) 0 108) (St' := RC bb1 St (108 + 108 * k) 0 108) (fun i hi => by
        have h' : ¬ (108 + 108 * k + 0 ≤ 108 + 108 * k' + i ∧ 108 + 108 * k' + i < 108 + 108 * k + 0 + 108) := by omega
        exact ⟨if_neg h', if_neg h', if_neg h', if_neg h'⟩)
      have et : ∀ c', tset T k (cp bbI a K 0 108) (cp bbI b D 0 108) (cp bbI c L 0 108) (cp bb1 d S 0 108) k' c' = T k' c' := fun c' => if_neg e
      rw [et, et, et, et]
      exact z'
theorem op_keep_b (hP : InvP K D L S sf T G De Li St Ke) (hF : InvF F Fo) {p : Int32} (h : p < 0 ∨ 3 < p) : ∃ u v, fX4_keep_b F p = some u ∧ fX5_keep G De Li St Ke Fo p = some v ∧ v.1 = u.1 ∧ InvP K D L S sf T v.2.1 v.2.2.1 v.2.2.2.1 v.2.2.2.2.1 v.2.2.2.2.2.1 ∧ InvF u.2 v.2.2.2.2.2.2 := by
  unfold fX4_keep_b fX5_keep
  rw [is4, in5, fd1, fs1]
  simp only [Option.bind_some]
  rw [if_pos h, if_pos c00, if_pos c00]
  exact ⟨_, _, rfl, rfl, rfl, hP, hF.fnd (by decide)⟩
theorem op_keep_s (hP : InvP K D L S sf T G De Li St Ke) {k : Nat} (hk : k < 4) (hs : sf k ≠ none) : ∃ u v, fX4_keep_s K D L S (T k 0) (T k 1) (T k 2) (T k 3) (nI k) = some u ∧ fX5_keep G De Li St Ke Fo (nI k) = some v ∧ v.1 = u.1 ∧ InvP K D L S sf (tset T k u.2.1 u.2.2.1 u.2.2.2.1 u.2.2.2.2) v.2.1 v.2.2.1 v.2.2.2.1 v.2.2.2.2.1 v.2.2.2.2.2.1 ∧ v.2.2.2.2.2.2 = Fo := by
  unfold fX4_keep_s fX5_keep
  rw [is4, in5]
  simp only [Option.bind_some]
  rw [if_neg (ok_k hk), if_neg c10, if_neg c10, if_pos (by rw [q_inb (by omega)]; exact hk), l0, kp4s K D L S 3 100000 0 _ _ _ _ (by omega) (by omega), kp5 Ke Fo hk 3 100000 0 _ _ _ _ (by omega) (by omega)]
  unfold fX4_keep_s_75 fX5_keep_45
  rw [if_pos c00, if_pos (by rw [q_inb (by omega)]; exact hk), q_cl (by omega), if_neg (by rw [(hP.st hk hs).1]; decide), q_and1]
  exact ⟨_, _, rfl, rfl, rfl, kept_ok hP hk sf hs (fun _ _ => rfl) _ _ _ _, rfl⟩
theorem op_keep_n (hP : InvP K D L S sf T G De Li St Ke) {k : Nat} (hk : k < 4) (hs : sf k = none) : ∃ u v, fX4_keep_n K D L S (nI k) = some u ∧ fX5_keep G De Li St Ke Fo (nI k) = some v ∧ v.1 = u.1 ∧ (∀ q : Nat, InvP K D L S (va_up sf k (some q)) (tset T k u.2.1 u.2.2.1 u.2.2.2.1 u.2.2.2.2) v.2.1 v.2.2.1 v.2.2.2.1 v.2.2.2.2.1 v.2.2.2.2.2.1) ∧ v.2.2.2.2.2.2 = Fo := by
  unfold fX4_keep_n fX5_keep
  rw [is4, in5]
  simp only [Option.bind_some]
  rw [if_neg (ok_k hk), if_neg c10, if_neg c10, if_pos (by rw [q_inb (by omega)]; exact hk), l0, kp4n K D L S 3 100000 0 _ _ _ _ (by omega) (by omega), kp5 Ke Fo hk 3 100000 0 _ _ _ _ (by omega) (by omega)]
  unfold fX4_keep_n_75 fX5_keep_45
  rw [if_neg c10, if_pos (by rw [q_inb (by omega)]; exact hk), q_cl (by omega), if_pos ((hP.kept k hk).mp hs), q_and1]
  refine ⟨_, _, rfl, rfl, rfl, fun q => kept_ok hP hk _ ?_ ?_ _ _ _ _, rfl⟩
  · unfold va_up; rw [if_pos rfl]; exact fun h => by cases h
  · intro i hi; unfold va_up; rw [if_neg hi]
end OPS5
