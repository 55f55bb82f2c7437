/-! PURE: best(), the numbers that both sides reckon -/
def dv (a : Nat) : Nat := (a - 3) + (3 - a)
theorem dv_le {a : Nat} (h : a ≤ 6) : dv a ≤ 3 := by unfold dv; omega
def cd (a : Nat) : Int32 := nI a - nI 3
theorem cd_int {a : Nat} (h : a ≤ 1000) : (cd a).toInt = (a : Int) - 3 := by
  unfold cd
  rw [vI_int h (by omega)]; rfl
theorem cd_s (a : Nat) : cd a + 1 = cd (a + 1) := vI_s a 3
theorem cd_3 : cd 3 = 0 := by decide
theorem cd_neg {r : Nat} (h : r ≤ 3) : -nI r = cd (3 - r) := by
  rcases (show r = 0 ∨ r = 1 ∨ r = 2 ∨ r = 3 by omega) with rfl | rfl | rfl | rfl <;> decide
theorem cd_lt {r a : Nat} (h : r ≤ 1000) (h2 : a ≤ 1000) : nI r < cd a ↔ 3 + r < a := by
  rw [pn_lt, pn_n (by omega), cd_int h2]; omega
theorem cd_p (a : Nat) : cd a + 3 = nI a := by
  unfold cd
  exact Int32.sub_add_cancel _ _
theorem cd_abs {a : Nat} (h : a ≤ 6) : zabs (cd a) = nI (dv a) := by
  rcases (show a = 0 ∨ a = 1 ∨ a = 2 ∨ a = 3 ∨ a = 4 ∨ a = 5 ∨ a = 6 by omega) with rfl | rfl | rfl | rfl | rfl | rfl | rfl <;> decide
theorem cd_add {X d : Nat} (h : X ≤ 5000) (hd : d ≤ 6) : nI (X + 3) + cd d = nI (X + d) := by
  have e := cd_int (a := d) (by omega)
  have e2 := pn_n (n := X + 3) (by omega)
  rw [pn_eq, pn_add (by rw [e, e2]; omega) (by rw [e, e2]; omega), e, e2, pn_n (by omega)]
  omega
theorem p4_placeOf {M : zM} {k a b c : Nat} {Q : Int32 → Prop} (h : Q (nI (343 * k + 49 * a + 7 * b + c))) : wX4_placeOf M (nI k) (cd a) (cd b) (cd c) Q := by
  unfold wX4_placeOf
  intro x6 e6 x7 e7
  rw [cd_p a, Int32.add_assoc, cd_p b, show (7 : Int32) = nI 7 from rfl, pk_mul, nI_add] at e6
  rw [e6, show (343 : Int32) = nI 343 from rfl, show (7 : Int32) = nI 7 from rfl, pk_mul, pk_mul, nI_add] at e7
  rw [e7, Int32.add_assoc, cd_p c, nI_add, show k * 343 + (a * 7 + b) * 7 + c = 343 * k + 49 * a + 7 * b + c by omega]
  exact h
theorem p8_place {M : zM} {k a b c : Nat} {Q : Int32 → Prop} (h : Q (nI (343 * k + 49 * a + 7 * b + c))) : wX8_place M (nI k) (cd a) (cd b) (cd c) Q := by
  unfold wX8_place
  intro x6 e6 x7 e7
  rw [cd_p a, show (343 : Int32) = nI 343 from rfl, show (49 : Int32) = nI 49 from rfl, pk_mul, pk_mul, nI_add] at e6
  rw [e6, cd_p b, show (7 : Int32) = nI 7 from rfl, pk_mul, nI_add] at e7
  rw [e7, Int32.add_assoc, cd_p c, nI_add]
  exact h
/-- the reach of a peg, there or not -/
def bR (n : Nat) (K B : Nat → Int32) (i : Int) : Nat := if 0 ≤ i ∧ i < n then (fReach K B i.toNat).toInt.toNat else 0
/-- what is searched is as it may be -/
def rg (n : Nat) (V B : Nat → Int32) : Prop := 3 ≤ n ∧ n ≤ 12 ∧ (∀ k, k < n → -999 ≤ (V k).toInt ∧ (V k).toInt ≤ 999) ∧ ∀ k, k < n → 0 ≤ (B k).toInt ∧ (B k).toInt ≤ 3
theorem bR_le {n : Nat} {K V B : Nat → Int32} (h : rg n V B) (i : Int) : bR n K B i ≤ 3 := by
  unfold bR
  by_cases c : 0 ≤ i ∧ i < n
  · rw [if_pos c]
    have := h.2.2.2 i.toNat (by omega)
    have := fReach_rng (K := K) (B := B) (k := i.toNat) this.1 this.2
    omega
  · rw [if_neg c]; omega
theorem bR_m1 (n : Nat) (K B : Nat → Int32) : bR n K B (-1) = 0 := by unfold bR; rw [if_neg (by omega)]
theorem p2_reachI {M : zM} {o n : Nat} {x : Int32} {K V B : Nat → Int32} {Q : Int32 → Prop} (hg : rg n V B) (hn : M o 0 = nI n) (hK : ∀ k, k < n → M (o + 1) k = K k) (hB : ∀ k, k < n → M (o + 3) k = B k) (h : Q (nI (bR n K B x.toInt))) : wX2_reach M o x Q := by
  have h12 := hg.2.1
  unfold bR at h
  by_cases c : 0 ≤ x.toInt ∧ x.toInt < n
  · have hk : x.toInt.toNat < n := by omega
    have hb := hg.2.2.2 x.toInt.toNat hk
    rw [if_pos c, ← pn_of (fReach_rng (K := K) hb.1 hb.2).1] at h
    rw [pn_of c.1]
    refine p2_reach hn h12 hk (by rw [hB _ hk]; exact hb) ?_
    rw [fReach_of hk hK hB]
    exact h
  · rw [if_neg c, nI_0] at h
    unfold wX2_reach
    rw [hn]
    refine ⟨fun _ => h, fun d => ⟨fun _ => h, fun e => ?_⟩⟩
    exfalso
    rw [pn_lt, t0] at d
    rw [pn_le, pn_n (by omega)] at e
    omega
theorem p8_reachAt {M : zM} {o n : Nat} {x : Int32} {K V B : Nat → Int32} {Q : Int32 → Prop} (hg : rg n V B) (hn : M (o + 6) 0 = nI n) (hK : ∀ k, k < n → rK (M (o + 6)) k = K k) (hB : ∀ k, k < n → rB (M (o + 6)) k = B k) (h : Q (nI (bR n K B x.toInt))) : wX8_reachAt M o x Q := by
  have h12 := hg.2.1
  have h3 := hg.1
  unfold wX8_reachAt
  intro x4 e4
  have e4 : x4 = nI n - 1 := by rw [e4]; show M (o + 6) 0 - 1 = _; rw [hn]
  unfold bR at h
  refine p8_in ⟨fun c => ?_, fun c => ?_⟩
  · rw [zin_0, pn_lt, pn_lt, t0, e4, t_m1 (by omega)] at c
    rw [if_neg (by omega), nI_0] at h
    exact h
  · obtain ⟨z1, z2⟩ := zin_in c
    rw [t0] at z1
    rw [e4, t_m1 (by omega)] at z2
    have hk : x.toInt.toNat < n := by omega
    have hb := hg.2.2.2 x.toInt.toNat hk
    rw [if_pos (by omega), ← pn_of (fReach_rng (K := K) hb.1 hb.2).1] at h
    rw [pn_of z1]
    refine p8_reach (by omega) (by omega) (by omega) ?_
    rw [fReach_of hk hK hB]
    exact h
/-- the step of a peg by four slews -/
def bS (K V : Nat → Int32) (k a b c d : Nat) : Nat := if K k = 3 ∨ K (k + 1) = 3 then 0 else ((V k).toInt - (V (k + 1)).toInt + 3 * ((b : Int) - c) - a + d).natAbs
theorem bS_le {n : Nat} {K V B : Nat → Int32} (h : rg n V B) {k a b c d : Nat} (hk : k + 1 < n) (ha : a ≤ 6) (hb : b ≤ 6) (hc : c ≤ 6) (hd : d ≤ 6) : bS K V k a b c d ≤ 2022 := by
  have h1 := h.2.2.1 k (by omega)
  have h2 := h.2.2.1 (k + 1) hk
  unfold bS
  split <;> omega
/-- the least of some, and of a number -/
def mn (acc : Nat) (f : Nat → Nat) (lo : Nat) : Nat → Nat
  | 0 => acc
  | i + 1 => if mn acc f lo i ≤ f (lo + i) then mn acc f lo i else f (lo + i)
theorem mn_le {acc : Nat} {f : Nat → Nat} {lo : Nat} : ∀ i, mn acc f lo i ≤ acc := by
  intro i
  induction i with
  | zero => exact Nat.le_refl _
  | succ i ih =>
    rw [mn]
    split <;> omega
theorem mn_lt {acc : Nat} {f : Nat → Nat} {lo t : Nat} : ∀ i, mn acc f lo i < t ↔ (acc < t ∨ ∃ j, j < i ∧ f (lo + j) < t) := by
  intro i
  induction i with
  | zero =>
    show acc < t ↔ _
    exact ⟨fun h => Or.inl h, fun h => h.elim id (fun ⟨j, hj, _⟩ => by omega)⟩
  | succ i ih =>
    have e : mn acc f lo (i + 1) < t ↔ (mn acc f lo i < t ∨ f (lo + i) < t) := by
      rw [mn]
      split <;> omega
    rw [e, ih]
    constructor
    · rintro ((h | ⟨j, hj, h⟩) | h)
      · exact Or.inl h
      · exact Or.inr ⟨j, by omega, h⟩
      · exact Or.inr ⟨i, by omega, h⟩
    · rintro (h | ⟨j, hj, h⟩)
      · exact Or.inl (Or.inl h)
      · by_cases c : j = i
        · subst c; exact Or.inr h
        · exact Or.inl (Or.inr ⟨j, by omega, h⟩)
theorem mn_at {acc : Nat} {f : Nat → Nat} {lo : Nat} : ∀ i, mn acc f lo i = acc ∨ ∃ j, j < i ∧ f (lo + j) = mn acc f lo i := by
  intro i
  induction i with
  | zero => exact Or.inl rfl
  | succ i ih =>
    rw [mn]
    split
    · rcases ih with h | ⟨j, hj, h⟩
      · exact Or.inl h
      · exact Or.inr ⟨j, by omega, h⟩
    · exact Or.inr ⟨i, by omega, rfl⟩
def mn2 (acc : Nat) (f : Nat → Nat → Nat) (lb lc cc : Nat) : Nat → Nat
  | 0 => acc
  | i + 1 => mn (mn2 acc f lb lc cc i) (f (lb + i)) lc cc
theorem mn2_le {acc : Nat} {f : Nat → Nat → Nat} {lb lc cc : Nat} : ∀ i, mn2 acc f lb lc cc i ≤ acc := by
  intro i
  induction i with
  | zero => exact Nat.le_refl _
  | succ i ih =>
    have := mn_le (acc := mn2 acc f lb lc cc i) (f := f (lb + i)) (lo := lc) cc
    rw [mn2]; omega
theorem mn2_lt {acc : Nat} {f : Nat → Nat → Nat} {lb lc cc t : Nat} : ∀ i, mn2 acc f lb lc cc i < t ↔ (acc < t ∨ ∃ p q, p < i ∧ q < cc ∧ f (lb + p) (lc + q) < t) := by
  intro i
  induction i with
  | zero =>
    show acc < t ↔ _
    exact ⟨fun h => Or.inl h, fun h => h.elim id (fun ⟨p, q, hp, _⟩ => by omega)⟩
  | succ i ih =>
    rw [mn2, mn_lt, ih]
    constructor
    · rintro ((h | ⟨p, q, hp, hq, h⟩) | ⟨q, hq, h⟩)
      · exact Or.inl h
      · exact Or.inr ⟨p, q, by omega, hq, h⟩
      · exact Or.inr ⟨i, q, by omega, hq, h⟩
    · rintro (h | ⟨p, q, hp, hq, h⟩)
      · exact Or.inl (Or.inl h)
      · by_cases c : p = i
        · subst c; exact Or.inr ⟨q, hq, h⟩
        · exact Or.inl (Or.inr ⟨p, q, by omega, hq, h⟩)
theorem mn2_at {acc : Nat} {f : Nat → Nat → Nat} {lb lc cc : Nat} : ∀ i, mn2 acc f lb lc cc i = acc ∨ ∃ p q, p < i ∧ q < cc ∧ f (lb + p) (lc + q) = mn2 acc f lb lc cc i := by
  intro i
  induction i with
  | zero => exact Or.inl rfl
  | succ i ih =>
    rw [mn2]
    rcases mn_at (acc := mn2 acc f lb lc cc i) (f := f (lb + i)) (lo := lc) cc with h | ⟨q, hq, h⟩
    · rw [h]
      rcases ih with h | ⟨p, q, hp, hq, h⟩
      · exact Or.inl h
      · exact Or.inr ⟨p, q, by omega, hq, h⟩
    · exact Or.inr ⟨i, q, by omega, hq, h⟩
/-- the table: what comes at least, j pegs ahead of the last -/
def bT (n : Nat) (K V B : Nat → Int32) (F : Nat) (g : Nat → Nat → Nat → Nat) : Nat → Nat → Nat → Nat → Nat
  | 0, _, _, _ => 0
  | j + 1, a, b, c => mn F (fun d => g (bS K V (n - 2 - j) a b c d) d (bT n K V B F g j b c d)) (3 - bR n K B ((n : Int) - j)) (2 * bR n K B ((n : Int) - j) + 1)
def gC (w : Option Nat) (s d r : Nat) : Nat := match w with
  | none => if s ≤ r then r else s
  | some w => if w < s then 268435456 else if r < 268435456 then 64 * s + dv d + r else 268435456
theorem gC_none (s d r : Nat) : gC none s d r = if s ≤ r then r else s := rfl
def gR (w s d r : Nat) : Nat := if s ≤ w then (if r = 1000000000 then 1000000000 else 1000 * s + dv d + r) else 1000000000
theorem bT_le {n : Nat} {K V B : Nat → Int32} {F : Nat} {g : Nat → Nat → Nat → Nat} (j a b c : Nat) : bT n K V B F g j a b c ≤ F := by
  cases j with
  | zero => exact Nat.zero_le _
  | succ j => rw [bT]; exact mn_le _
/-- a class's number and the reference's, for the same uneven and the same moved -/
def rl (j x y : Nat) : Prop := (x = 268435456 ∧ y = 1000000000) ∨ ∃ u m, x = 64 * u + m ∧ y = 1000 * u + m ∧ m ≤ 3 * j ∧ u ≤ 2022 * j
def rlw (j x y : Nat) : Prop := (268435456 ≤ x ∧ y = 1000000000) ∨ ∃ u m, x = 64 * u + m ∧ y = 1000 * u + m ∧ m ≤ 3 * j ∧ u ≤ 2022 * j
theorem rl_w {j x y : Nat} (h : rl j x y) : rlw j x y := h.elim (fun q => Or.inl ⟨by omega, q.2⟩) Or.inr
theorem rlw_le {j x y x' y' : Nat} (hj : j ≤ 14) (h : rl j x y) (h' : rlw j x' y') : x ≤ x' ↔ y ≤ y' := by
  rcases h with ⟨h1, h2⟩ | ⟨u, m, h1, h2, h3, h4⟩ <;> rcases h' with ⟨g1, g2⟩ | ⟨u', m', g1, g2, g3, g4⟩ <;> omega
theorem rlw_eq {j x y x' y' : Nat} (hj : j ≤ 14) (hx : x < 268435456) (h : rl j x y) (h' : rlw j x' y') : x' = x ↔ y' = y := by
  rcases h with ⟨h1, h2⟩ | ⟨u, m, h1, h2, h3, h4⟩ <;> rcases h' with ⟨g1, g2⟩ | ⟨u', m', g1, g2, g3, g4⟩ <;> omega
theorem mn_rl {j : Nat} (hj : j ≤ 14) {x y : Nat} {f g : Nat → Nat} {lo : Nat} (h0 : rl j x y) : ∀ i, (∀ p, p < i → rlw j (f (lo + p)) (g (lo + p))) → rl j (mn x f lo i) (mn y g lo i) := by
  intro i
  induction i with
  | zero => intro _; exact h0
  | succ i ih =>
    intro h
    have h1 := ih (fun p hp => h p (by omega))
    have h2 := h i (by omega)
    have e := rlw_le hj h1 h2
    rw [mn, mn]
    by_cases c : mn x f lo i ≤ f (lo + i)
    · rw [if_pos c, if_pos (e.1 c)]; exact h1
    · rw [if_neg c, if_neg (fun q => c (e.2 q))]
      refine h2.elim (fun q => ?_) Or.inr
      exfalso
      have := rl_w h1
      rcases h1 with ⟨h1, _⟩ | ⟨u, m, h1, _, h3, h4⟩ <;> omega
theorem mn2_rl {j : Nat} (hj : j ≤ 14) {x y : Nat} {f g : Nat → Nat → Nat} {lb lc cc : Nat} (h0 : rl j x y) : ∀ i, (∀ p q, p < i → q < cc → rlw j (f (lb + p) (lc + q)) (g (lb + p) (lc + q))) → rl j (mn2 x f lb lc cc i) (mn2 y g lb lc cc i) := by
  intro i
  induction i with
  | zero => intro _; exact h0
  | succ i ih =>
    intro h
    rw [mn2, mn2]
    exact mn_rl hj (ih (fun p q hp hq => h p q (by omega) hq)) cc (fun q hq => h i q (by omega) hq)
theorem g_rl {j w s d r r' : Nat} (hj : j < 12) (hs : s ≤ 2022) (hd : d ≤ 6) (h : rl j r r') : rl (j + 1) (gC (some w) s d r) (gR w s d r') := by
  have h3 := dv_le hd
  unfold gC gR
  by_cases c : w < s
  · rw [if_neg (show ¬ s ≤ w by omega)]
    show rl (j + 1) (if w < s then 268435456 else if r < 268435456 then 64 * s + dv d + r else 268435456) _
    rw [if_pos c]; exact Or.inl ⟨rfl, rfl⟩
  · rw [if_pos (show s ≤ w by omega)]
    show rl (j + 1) (if w < s then 268435456 else if r < 268435456 then 64 * s + dv d + r else 268435456) _
    rw [if_neg c]
    rcases h with ⟨h1, h2⟩ | ⟨u, m, h1, h2, h4, h5⟩
    · rw [if_neg (by omega), if_pos h2]; exact Or.inl ⟨rfl, rfl⟩
    · rw [if_pos (by omega), if_neg (by omega)]
      exact Or.inr ⟨s + u, dv d + m, by omega, by omega, by omega, by omega⟩
theorem lo_le {n : Nat} {K V B : Nat → Int32} (h : rg n V B) {i : Int} {p : Nat} (hp : p < 2 * bR n K B i + 1) : 3 - bR n K B i + p ≤ 6 := by
  have := bR_le (K := K) h i
  omega
theorem bT_rl {n : Nat} {K V B : Nat → Int32} (h : rg n V B) (w : Nat) : ∀ j a b c, j + 1 ≤ n → a ≤ 6 → b ≤ 6 → c ≤ 6 → rl j (bT n K V B 268435456 (gC (some w)) j a b c) (bT n K V B 1000000000 (gR w) j a b c) := by
  have h12 := h.2.1
  intro j
  induction j with
  | zero => intro a b c _ _ _ _; exact Or.inr ⟨0, 0, rfl, rfl, by omega, by omega⟩
  | succ j ih =>
    intro a b c hj ha hb hc
    rw [bT, bT]
    refine mn_rl (by omega) (Or.inl ⟨rfl, rfl⟩) _ (fun p hp => rl_w ?_)
    have hd := lo_le h hp
    exact g_rl (by omega) (bS_le h (by omega) ha hb hc hd) hd (ih _ _ _ (by omega) hb hc hd)
/-- a worst can be kept to just if the least worst is no more -/
theorem bT_feas {n : Nat} {K V B : Nat → Int32} (h : rg n V B) {w : Nat} (hw : w ≤ 5000) : ∀ j a b c, j + 1 ≤ n → a ≤ 6 → b ≤ 6 → c ≤ 6 → (bT n K V B 1000000000 (gR w) j a b c < 1000000000 ↔ bT n K V B 268435456 (gC none) j a b c < w + 1) := by
  have h12 := h.2.1
  intro j
  induction j with
  | zero => intro a b c _ _ _ _; unfold bT; omega
  | succ j ih =>
    intro a b c hj ha hb hc
    rw [bT, bT, mn_lt, mn_lt]
    have key : ∀ p, p < 2 * bR n K B ((n : Int) - j) + 1 → ((gR w (bS K V (n - 2 - j) a b c (3 - bR n K B ((n : Int) - j) + p)) (3 - bR n K B ((n : Int) - j) + p) (bT n K V B 1000000000 (gR w) j b c (3 - bR n K B ((n : Int) - j) + p)) < 1000000000) ↔ (gC none (bS K V (n - 2 - j) a b c (3 - bR n K B ((n : Int) - j) + p)) (3 - bR n K B ((n : Int) - j) + p) (bT n K V B 268435456 (gC none) j b c (3 - bR n K B ((n : Int) - j) + p)) < w + 1)) := by
      intro p hp
      have hd := lo_le h hp
      have i1 := ih b c _ (by omega) hb hc hd
      have i2 := bT_rl (K := K) h w j b c _ (by omega) hb hc hd
      have i3 := dv_le hd
      have i4 := bS_le (K := K) h (show n - 2 - j + 1 < n by omega) ha hb hc hd
      generalize 3 - bR n K B ((n : Int) - j) + p = d at *
      generalize bS K V (n - 2 - j) a b c d = s at *
      generalize bT n K V B 268435456 (gC none) j b c d = r at *
      generalize bT n K V B 1000000000 (gR w) j b c d = r' at *
      rw [gC_none]
      unfold gR
      rcases i2 with ⟨q1, q2⟩ | ⟨u, m, q1, q2, q3, q4⟩
      · rw [if_pos q2]
        have : ¬ r < w + 1 := fun q => by have := i1.2 q; omega
        constructor
        · intro q; exfalso; revert q; split <;> omega
        · intro q; exfalso; revert q; split <;> omega
      · have : r < w + 1 := i1.1 (by omega)
        rw [if_neg (show ¬ r' = 1000000000 by omega)]
        constructor
        · intro q
          by_cases c : s ≤ w
          · split <;> omega
          · rw [if_neg c] at q; omega
        · intro q
          by_cases c : s ≤ w
          · rw [if_pos c]; omega
          · exfalso; revert q; split <;> omega
    constructor
    · rintro (q | ⟨p, hp, q⟩)
      · omega
      · exact Or.inr ⟨p, hp, (key p hp).1 q⟩
    · rintro (q | ⟨p, hp, q⟩)
      · omega
      · exact Or.inr ⟨p, hp, (key p hp).2 q⟩
theorem bT_none {n : Nat} {K V B : Nat → Int32} (h : rg n V B) : ∀ j a b c, j + 1 ≤ n → a ≤ 6 → b ≤ 6 → c ≤ 6 → bT n K V B 268435456 (gC none) j a b c < 2023 := by
  intro j
  induction j with
  | zero => intro a b c _ _ _ _; unfold bT; omega
  | succ j ih =>
    intro a b c hj ha hb hc
    rw [bT, mn_lt]
    refine Or.inr ⟨0, by omega, ?_⟩
    have hd := lo_le (K := K) h (show 0 < 2 * bR n K B ((n : Int) - j) + 1 by omega)
    have i1 := ih b c _ (by omega) hb hc hd
    have i4 := bS_le (K := K) h (show n - 2 - j + 1 < n by omega) ha hb hc hd
    show gC none _ _ _ < 2023
    rw [gC_none]
    split <;> omega
