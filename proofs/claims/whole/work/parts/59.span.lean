/-! spans -/
theorem sub_np {e d : Nat} (h : e ≤ d) (hd : d < 2147483648) : ¬ (0 : Int32) < nI e - nI d := by
  rw [Int32.lt_iff_toInt_lt, Int32.toInt_sub, nI_toInt (by omega), nI_toInt hd, Int.bmod_eq_of_le (by omega) (by omega)]
  show ¬ ((0 : Int) < _)
  omega
theorem le_m1 {f l : Nat} (hf : f < 2147483648) (hl : l < 2147483648) : (nI f ≤ nI l - 1) = (f < l) := by
  by_cases h : l = 0
  · subst h
    refine propext ⟨fun h1 => ?_, fun h1 => by omega⟩
    rw [Int32.le_iff_toInt_le, nI_toInt hf] at h1
    exact absurd h1 (by show ¬ ((f : Int) ≤ -1); omega)
  · rw [l1, q_sub (by omega), q_le hf (by omega)]
    exact propext ⟨fun h => by omega, fun h => by omega⟩
theorem mb_snoc (b k : Nat) : ∀ (n d l : Nat), mb b k (n + 1) d l = (mn ((mb b k n d l).1 + tms k (mb b k n d l).2 * b), (mb b k n d l).2 - 1)
  | 0, _, _ => rfl
  | n + 1, d, l => by rw [mb, mb_snoc b k n]; rfl
theorem mb_le (b k : Nat) : ∀ (n d l : Nat), d ≤ 9999 → l ≤ 60 → (mb b k n d l).1 ≤ 9999 ∧ (mb b k n d l).2 ≤ 60
  | 0, _, _, h1, h2 => ⟨h1, h2⟩
  | n + 1, d, l, h1, h2 => mb_le b k n _ _ (mn_le _) (by omega)
theorem cei {q p n : Nat} (hp : 0 < p) : (q + p - 1) / p ≤ n ↔ q ≤ p * n := by
  rw [← Nat.lt_succ_iff, Nat.div_lt_iff_lt_mul hp, Nat.succ_mul, Nat.mul_comm n p]
  omega
/-- the first minute at which a depth is reached -/
def mod (b k d l e : Nat) : Nat := if e ≤ d then 0 else if tms k l * b = 0 then 201 else if (e - d + tms k l * b - 1) / (tms k l * b) ≤ bm k l 200 then (e - d + tms k l * b - 1) / (tms k l * b) else 201
theorem mod_le (b k d l e : Nat) : mod b k d l e ≤ 201 := by
  unfold mod
  have : bm k l 200 ≤ 200 := by unfold bm; split <;> (try split) <;> omega
  split
  · omega
  · split
    · omega
    · split <;> omega
theorem mod_ok {b k d l e m : Nat} (he : e ≤ 9999) (hl : l ≤ 60) (hm : m ≤ 200) : e ≤ clD b k m d l ↔ mod b k d l e ≤ m := by
  have h1 : e ≤ clD b k m d l ↔ e ≤ d + tms k l * b * bm k l m := by
    unfold clD mn
    split <;> omega
  rw [h1]
  unfold mod
  by_cases h2 : e ≤ d
  · rw [if_pos h2]
    exact ⟨fun _ => by omega, fun _ => by omega⟩
  · rw [if_neg h2]
    by_cases h3 : tms k l * b = 0
    · rw [if_pos h3, h3, Nat.zero_mul]
      exact ⟨fun _ => by omega, fun _ => by omega⟩
    · rw [if_neg h3]
      have h4 : ∀ n, (e - d + tms k l * b - 1) / (tms k l * b) ≤ n ↔ e - d ≤ tms k l * b * n := fun n => cei (Nat.pos_of_ne_zero h3)
      have h5 : e ≤ d + tms k l * b * bm k l m ↔ (e - d + tms k l * b - 1) / (tms k l * b) ≤ bm k l m := by
        rw [h4]
        exact ⟨fun _ => by omega, fun _ => by omega⟩
      rw [h5]
      have h6 : bm k l m ≤ m ∧ bm k l m ≤ bm k l 200 ∧ ∀ x, x ≤ m → x ≤ bm k l 200 → x ≤ bm k l m := by
        unfold bm
        by_cases hk : k = 2
        · rw [if_pos hk, if_pos hk]
          split <;> split <;> exact ⟨by omega, by omega, fun x _ _ => by omega⟩
        · rw [if_neg hk, if_neg hk]
          exact ⟨by omega, by omega, fun x _ _ => by omega⟩
      by_cases h7 : (e - d + tms k l * b - 1) / (tms k l * b) ≤ bm k l 200
      · rw [if_pos h7]
        exact ⟨fun h => Nat.le_trans h h6.1, fun h => h6.2.2 _ h h7⟩
      · rw [if_neg h7]
        exact ⟨fun h => absurd (Nat.le_trans h h6.2.1) h7, fun h => by omega⟩
theorem mo4 {K D L : Nat → Int32} {j b e k d l : Nat} (hj : j < 108) (hb : b ≤ 13) (he : e ≤ 640) (hk : K j = nI k) (hd : D j = nI d) (hl : L j = nI l) (b1 : k ≤ 2) (b2 : d ≤ 9999) (b3 : l ≤ 60) : fX1_minuteOfDepth K D L (nI j) (nI e) (nI b) = some (nI (mod b k d l e)) := by
  have hp : tms k l * b ≤ 39 := Nat.mul_le_mul (tms_le k l) hb
  have hm : bm k l 200 ≤ 200 := by unfold bm; split <;> (try split) <;> omega
  unfold fX1_minuteOfDepth fX1_bitingMinutes mod
  rw [tm4 K L hj hk hl b1 b3, if_pos (show inb (nI j) 108 = true by rw [q_inb (by omega)]; exact hj), q_cl (by omega), hd, hk, hl]
  simp only [Option.bind_some]
  by_cases h1 : e ≤ d
  · rw [if_neg (sub_np h1 (by omega)), if_pos h1]
    rfl
  · rw [q_sub (by omega), if_pos (show (0 : Int32) < nI (e - d) by rw [l0, q_lt (by omega) (by omega)]; omega), if_neg h1, pk_mul]
    by_cases h2 : tms k l * b = 0
    · rw [if_neg (show ¬ (0 : Int32) < nI (tms k l * b) by rw [h2]; decide), if_pos h2]
      rfl
    · rw [if_pos (show (0 : Int32) < nI (tms k l * b) by rw [l0, q_lt (by omega) (by omega)]; omega), if_neg h2, if_neg (show ¬ nI (tms k l * b) = 0 by rw [l0, q_eq (by omega) (by omega)]; exact h2), nI_add, l1, q_sub (by omega), q_div (by omega) (by omega) (by omega)]
      have e0 : (if inb (nI j) 108 = true then if nI k = (2 : Int32) then some (if nI l < (200 : Int32) then nI l else (200 : Int32)) else some (200 : Int32) else none) = some (nI (bm k l 200)) := by
        rw [if_pos (show inb (nI j) 108 = true by rw [q_inb (by omega)]; exact hj), l2, l200]
        unfold bm
        simp (disch := omega) only [q_lt, q_eq]
        by_cases h2 : k = 2
        · rw [if_pos h2, if_pos h2]
          by_cases h3 : l < 200
          · rw [if_pos h3, if_pos h3]
          · rw [if_neg h3, if_neg h3]
        · rw [if_neg h2, if_neg h2]
      simp only [e0, Option.bind_some]
      have hq : (e - d + tms k l * b - 1) / (tms k l * b) ≤ 2000 := Nat.le_trans (Nat.div_le_self _ _) (by omega)
      simp (disch := omega) only [q_lt]
      by_cases h3 : (e - d + tms k l * b - 1) / (tms k l * b) ≤ bm k l 200
      · rw [if_neg (by omega), if_pos h3]
      · rw [if_pos (by omega), if_neg h3]
        rfl
/-- one behind a span's last minute -/
def lst (b k d l t : Nat) : Nat := if t < 15 then mod b k d l (40 * (t + 1)) else 201
theorem lst_le (b k d l t : Nat) : lst b k d l t ≤ 201 := by
  unfold lst; split
  · exact mod_le _ _ _ _ _
  · omega
theorem tone_iff {b k d l t m : Nat} (ht : t ≤ 15) (hl : l ≤ 60) (hm : m ≤ 200) : tn (clD b k m d l) = t ↔ (mod b k d l (40 * t) ≤ m ∧ m < lst b k d l t) := by
  rw [← mod_ok (by omega) hl hm]
  have h1 : tn (clD b k m d l) = t ↔ (40 * t ≤ clD b k m d l ∧ (t < 15 → ¬ 40 * (t + 1) ≤ clD b k m d l)) := by
    unfold tn
    split <;> omega
  rw [h1]
  unfold lst
  by_cases h : t < 15
  · rw [if_pos h, mod_ok (e := 40 * (t + 1)) (by omega) hl hm]
    exact ⟨fun ⟨x, y⟩ => ⟨x, by have := y h; omega⟩, fun ⟨x, y⟩ => ⟨x, fun _ => by omega⟩⟩
  · rw [if_neg h]
    exact ⟨fun ⟨x, y⟩ => ⟨x, by omega⟩, fun ⟨x, y⟩ => ⟨x, fun h9 => absurd h9 h⟩⟩
theorem fml4 {K D L : Nat → Int32} {j b t k d l : Nat} (hj : j < 108) (hb : b ≤ 13) (ht : t ≤ 15) (hk : K j = nI k) (hd : D j = nI d) (hl : L j = nI l) (b1 : k ≤ 2) (b2 : d ≤ 9999) (b3 : l ≤ 60) : fX1_firstMinute K D L (nI j) (nI t) (nI b) = some (nI (mod b k d l (40 * t))) ∧ fX1_lastMinute K D L (nI j) (nI t) (nI b) = some (nI (lst b k d l t) - 1) := by
  unfold fX1_firstMinute fX1_lastMinute lst
  rw [nx, l40, pk_mul, pk_mul, Nat.mul_comm t, Nat.mul_comm (t + 1), mo4 hj hb (by omega) hk hd hl b1 b2 b3]
  refine ⟨rfl, ?_⟩
  rw [l15]
  simp (disch := omega) only [q_lt]
  by_cases h : t < 15
  · rw [if_pos h, if_pos h, mo4 hj hb (by omega) hk hd hl b1 b2 b3]
    rfl
  · rw [if_neg h, if_neg h]
    rfl
theorem lk5 {G De Li St : Nat → Int32} {x a c k d l t : Nat} (hx : x < 108) (ha : a ≤ 9) (hc : c ≤ 4) (hk : G x = nI k) (b1 : k ≤ 2) (b2 : d ≤ 9999) (b3 : l ≤ 60) (ht : t ≤ 15) (hs : St x = 0) (be en : Nat → Int32)
    (h0 : ∀ y, y ≤ 200 → (tn (mb (bt a c) k y d l).1 = t → be (y + 1) = (if be y = -1 then nI y else be y) ∧ en (y + 1) = nI y) ∧ (¬ tn (mb (bt a c) k y d l).1 = t → be (y + 1) = be y ∧ en (y + 1) = en y)) :
    ∀ (m fu y : Nat), y + m = 201 → m < fu → fX5_looks_28 G De Li St (nI a) (nI c) (nI x) (nI t) fu (nI y) (be y) (en y) (upd De x (nI (mb (bt a c) k y d l).1)) (upd Li x (nI (mb (bt a c) k y d l).2)) = fX5_looks_87 De Li (nI x) (be 201) (en 201) (upd De x (nI (mb (bt a c) k 201 d l).1)) (upd Li x (nI (mb (bt a c) k 201 d l).2)) := by
  intro m
  induction m with
  | zero =>
    intro fu y h1 h2
    obtain ⟨fu, rfl⟩ := n_suc h2
    rw [fX5_looks_28, if_pos (by rw [l200, q_lt (by omega) (by omega)]; omega), show y = 201 by omega]
  | succ m ih =>
    intro fu y h1 h2
    obtain ⟨fu, rfl⟩ := n_suc h2
    obtain ⟨c1, c2⟩ := mb_le (bt a c) k y d l b2 b3
    have ht2 : tn (mb (bt a c) k y d l).1 ≤ 15 := by unfold tn; split <;> omega
    rw [fX5_looks_28, if_neg (by rw [l200, q_lt (by omega) (by omega)]; omega), q_cl (by omega), up_at, tn5 c1]
    simp only [Option.bind_some]
    unfold fX5_looks_67 fX5_looks_76
    have eb := bs5 (G := G) (De := upd De x (nI (mb (bt a c) k y d l).1)) (Li := upd Li x (nI (mb (bt a c) k y d l).2)) (St := St) hx ha hc ⟨k, _, _, hk, up_at _ _ _, up_at _ _ _, b1, c1, c2⟩ hs
    rw [up_at, up_at, hk, dc_nI (by omega), dc_nI (by omega), dc_nI (by omega), up_up, up_up] at eb
    have es := mb_snoc (bt a c) k y d l
    have e1 : mn ((mb (bt a c) k y d l).1 + tms k (mb (bt a c) k y d l).2 * bt a c) = (mb (bt a c) k (y + 1) d l).1 := by rw [es]
    have e2 : (mb (bt a c) k y d l).2 - 1 = (mb (bt a c) k (y + 1) d l).2 := by rw [es]
    rw [e1, e2] at eb
    rw [eb]
    simp only [Option.bind_some]
    have ih' := ih fu (y + 1) (by omega) (by omega)
    rw [nx]
    by_cases h : tn (mb (bt a c) k y d l).1 = t
    · rw [if_pos (congrArg nI h)]
      obtain ⟨f1, f2⟩ := (h0 y (by omega)).1 h
      rw [f1, f2] at ih'
      by_cases h9 : be y = -1
      · rw [if_pos h9] at ih'; rw [if_pos h9]; exact ih'
      · rw [if_neg h9] at ih'; rw [if_neg h9]; exact ih'
    · rw [if_neg (fun e => h (q_inj (by omega) (by omega) e))]
      obtain ⟨f1, f2⟩ := (h0 y (by omega)).2 h
      rw [f1, f2] at ih'
      exact ih'
theorem nI_nm1 {n : Nat} (h : n < 2147483648) : ¬ nI n = -1 := fun e => q_neg h (by rw [e]; decide)
theorem lo5 {G De Li St : Nat → Int32} {x a c k d l t : Nat} (hx : x < 108) (ha : a ≤ 9) (hc : c ≤ 4) (hk : G x = nI k) (hd : De x = nI d) (hl : Li x = nI l) (b1 : k ≤ 2) (b2 : d ≤ 9999) (b3 : l ≤ 60) (b5 : k ≠ 2 → l = 0) (ht : t ≤ 15) (hs : St x = 0) (y1 y2 : Int32) :
    fX5_looks G De Li St (nI a) (nI c) y1 y2 (nI x) (nI t) = some (if mod (bt a c) k d l (40 * t) < lst (bt a c) k d l t then ((1 : Int32), De, Li, nI (mod (bt a c) k d l (40 * t)), nI (lst (bt a c) k d l t - 1)) else ((0 : Int32), De, Li, (-1 : Int32), (-1 : Int32))) := by
  have hF := mod_le (bt a c) k d l (40 * t)
  have hL := lst_le (bt a c) k d l t
  have hti : ∀ m, m ≤ 200 → (tn (mb (bt a c) k m d l).1 = t ↔ (mod (bt a c) k d l (40 * t) ≤ m ∧ m < lst (bt a c) k d l t)) := fun m hm => by
    rw [mb_cl _ _ m d l b2 b5]
    exact tone_iff ht b3 hm
  generalize mod (bt a c) k d l (40 * t) = F at *
  generalize lst (bt a c) k d l t = Q at *
  unfold fX5_looks
  rw [if_pos (show inb (nI x) 648 = true by rw [q_inb (by omega)]; omega)]
  have u0 : upd De x (nI (mb (bt a c) k 0 d l).1) = De := by show upd De x (nI d) = De; rw [← hd, up_same]
  have u1 : upd Li x (nI (mb (bt a c) k 0 d l).2) = Li := by show upd Li x (nI l) = Li; rw [← hl, up_same]
  by_cases h : F < Q
  · rw [if_pos h]
    have key := lk5 (G := G) (De := De) (Li := Li) (St := St) (l := l) hx ha hc hk b1 b2 b3 ht hs (fun y => if y ≤ F then -1 else nI F) (fun y => if y ≤ F then -1 else if y - 1 < Q then nI (y - 1) else nI (Q - 1)) (fun y hy => by
      refine ⟨fun h1 => ?_, fun h1 => ?_⟩
      · have h2 := (hti y hy).mp h1
        try dsimp only
        rw [if_neg (show ¬ y + 1 ≤ F by omega), if_neg (show ¬ y + 1 ≤ F by omega), show y + 1 - 1 = y by omega, if_pos h2.2]
        refine ⟨?_, rfl⟩
        by_cases h3 : y ≤ F
        · rw [if_pos h3, if_pos rfl, show y = F by omega]
        · rw [if_neg h3, if_neg (nI_nm1 (by omega))]
      · have h2 : ¬ (F ≤ y ∧ y < Q) := fun h => h1 ((hti y hy).mpr h)
        try dsimp only
        by_cases h3 : y < F
        · rw [if_pos (show y + 1 ≤ F by omega), if_pos (show y + 1 ≤ F by omega), if_pos (show y ≤ F by omega), if_pos (show y ≤ F by omega)]
          exact ⟨rfl, rfl⟩
        · rw [if_neg (show ¬ y + 1 ≤ F by omega), if_neg (show ¬ y + 1 ≤ F by omega), if_neg (show ¬ y ≤ F by omega), if_neg (show ¬ y ≤ F by omega), if_neg (show ¬ y + 1 - 1 < Q by omega)]
          refine ⟨rfl, ?_⟩
          by_cases h4 : y - 1 < Q
          · rw [if_pos h4, show y - 1 = Q - 1 by omega]
          · rw [if_neg h4]) 201 100000 0 (by omega) (by omega)
    try dsimp only at key
    rw [u0, u1, if_pos (by omega), if_pos (by omega), if_neg (show ¬ 201 ≤ F by omega), if_neg (show ¬ 201 ≤ F by omega)] at key
    rw [show (0 : Int32) = nI 0 from rfl, key]
    unfold fX5_looks_87
    rw [if_neg (nI_nm1 (by omega)), q_cl (by omega), up_up, up_up, up_same, up_same]
    have e9 : (if 201 - 1 < Q then nI (201 - 1) else nI (Q - 1)) = nI (Q - 1) := by
      by_cases h4 : 201 - 1 < Q
      · rw [if_pos h4, show Q - 1 = 201 - 1 by omega]
      · rw [if_neg h4]
    rw [e9]
  · rw [if_neg h]
    have key := lk5 (G := G) (De := De) (Li := Li) (St := St) (l := l) hx ha hc hk b1 b2 b3 ht hs (fun y => -1) (fun y => -1) (fun y hy => by
      refine ⟨fun h1 => ?_, fun h1 => ⟨rfl, rfl⟩⟩
      have h2 := (hti y hy).mp h1
      omega) 201 100000 0 (by omega) (by omega)
    try dsimp only at key
    rw [u0, u1] at key
    rw [show (0 : Int32) = nI 0 from rfl, key]
    unfold fX5_looks_87
    rw [if_pos rfl, q_cl (by omega), up_up, up_up, up_same, up_same]
    rfl
section OPS9
variable {K D L S : Nat → Int32} {sf : Nat → Option Nat} {T : Nat → Nat → Nat → Int32} {G De Li St Ke F Fo : Nat → Int32}
theorem op_span (hP : InvP K D L S sf T G De Li St Ke) {st he ms mh : Int32} (hB : InvB st he ms mh) (hF : InvF F Fo) (y1 y2 p q r : Int32) : ∃ u v, fX4_span K D L S F st he p q r = some u ∧ fX5_span G De Li St ms mh Fo y1 y2 p q r = some v ∧ v.1 = u.1 ∧ InvP K D L S sf T G v.2.1 v.2.2.1 St Ke ∧ InvF u.2 v.2.2.2.1 := by
  obtain ⟨rfl, rfl, a, c, rfl, rfl, b1, b2, b3⟩ := hB
  unfold fX4_span fX5_span fX4_span_18 fX5_span_17
  rw [sp4, ic5, it4, in5, fd1, fs1, fd2, fs2, fd3, fs3, bi4 b2 b3]
  cases hc : cellOf p with
  | none => exact ⟨_, _, rfl, rfl, rfl, hP, hF.fnd (by decide)⟩
  | some j =>
    have hj := cellOf_lt hc
    simp only [Option.bind_some]
    rw [if_neg (q_neg (by omega)), if_neg c10, (sp5 hc).1]
    simp only [Option.bind_some]
    by_cases hq : q < 0 ∨ 15 < q
    · rw [if_pos hq, if_pos c00, if_pos c00]
      exact ⟨_, _, rfl, rfl, rfl, hP, hF.fnd (by decide)⟩
    · rw [if_neg hq, if_neg c10, if_neg c10]
      obtain ⟨t, ht, rfl⟩ := rg_of (m := 15) (by omega) rfl hq
      obtain ⟨⟨kn, dn, ln, sn, hk, hd, hl, hs, c1, c2, c3, c4, c5⟩, e1, e2, e3, e4⟩ := hP.at hj
      rw [if_pos (show inb (nI j) 108 = true by rw [q_inb (by omega)]; exact hj), if_pos (show inb (nI j) 648 = true by rw [q_inb (by omega)]; omega), q_cl (by omega), e4]
      by_cases h0 : S j = 0
      · rw [if_pos h0, if_pos h0]
        obtain ⟨f1, f2⟩ := fml4 (K := K) (D := D) (L := L) hj (bt_le b2 b3).2 ht hk hd hl c1 c2 c3
        rw [f1, f2, lo5 (t := t) hj b2 b3 (e1.trans hk) (e2.trans hd) (e3.trans hl) c1 c2 c3 c5 ht (e4.trans h0)]
        simp only [Option.bind_some]
        have hFF := mod_le (bt a c) kn dn ln (40 * t)
        have hLL := lst_le (bt a c) kn dn ln t
        have hle := le_m1 (f := mod (bt a c) kn dn ln (40 * t)) (l := lst (bt a c) kn dn ln t) (by omega) (by omega)
        by_cases h1 : mod (bt a c) kn dn ln (40 * t) < lst (bt a c) kn dn ln t
        · rw [if_pos (hle.mpr h1), if_pos h1, if_neg c10]
          by_cases h2 : r = 0
          · rw [if_pos h2, if_pos h2]; exact ⟨_, _, rfl, rfl, rfl, hP, hF⟩
          · rw [if_neg h2, if_neg h2]
            refine ⟨_, _, rfl, rfl, ?_, hP, hF⟩
            show nI (lst (bt a c) kn dn ln t - 1) = nI (lst (bt a c) kn dn ln t) - 1
            rw [l1, q_sub (by omega)]
        · rw [if_neg (fun h => h1 (hle.mp h)), if_neg h1, if_pos c00]; exact ⟨_, _, rfl, rfl, rfl, hP, hF.fnd (by decide)⟩
      · rw [if_neg h0, if_neg h0]; exact ⟨_, _, rfl, rfl, rfl, hP, hF.fnd (by decide)⟩
end OPS9
