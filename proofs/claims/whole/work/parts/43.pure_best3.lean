/-! PURE: best(), the class's table -/
def lm (w : Option Nat) : Int32 := match w with
  | none => -1
  | some x => nI x
def sk (M : zM) (o n : Nat) (K V B : Nat → Int32) : Prop := M (o + 1) 0 = nI n ∧ (∀ k, k < n → M (o + 1 + 1) k = K k) ∧ (∀ k, k < n → M (o + 1 + 2) k = V k) ∧ (∀ k, k < n → M (o + 1 + 3) k = B k)
def fr (M N : zM) (p : Nat) : Prop := ∀ x, x ≠ p → N x = M x
theorem fr_up {M N P : zM} {p : Nat} {f : Nat → Int32} (h : fr M N p) (e : P = va_up N p f) : fr M P p := fun x hx => by rw [e, va_up_ne _ _ hx]; exact h x hx
theorem sk_fr {M N : zM} {o n p : Nat} {K V B : Nat → Int32} (h : sk M o n K V B) (hf : fr M N p) (hp : o + 6 ≤ p) : sk N o n K V B := by
  unfold sk
  rw [hf (o + 1) (by omega), hf (o + 1 + 1) (by omega), hf (o + 1 + 2) (by omega), hf (o + 1 + 3) (by omega)]
  exact h
theorem t_p2 {k : Nat} (hk : k ≤ 10000) : (nI k + 2).toInt = (k : Int) + 2 := by rw [show (2 : Int32) = nI 2 from rfl, nI_add, pn_n (by omega)]; omega
theorem p4_costOf {M : zM} {o s d r : Nat} {w : Option Nat} {Q : Int32 → Prop} (hl : M o 3 = lm w) (hw : ∀ x, w = some x → x ≤ 5000) (hs : s ≤ 2022) (hd : d ≤ 6) (hr : r ≤ 268435456) (h : Q (nI (gC w s d r))) : wX4_costOf M o (nI s) (cd d) (nI r) Q := by
  unfold wX4_costOf
  rw [hl]
  cases w with
  | none =>
    have h : Q (nI (if s ≤ r then r else s)) := h
    refine ⟨fun c => absurd rfl c, fun _ => ⟨fun c => ?_, fun c => ?_⟩⟩
    · rw [nI_leI (by omega) (by omega)] at c; rwa [if_pos c] at h
    · rw [nI_leI (by omega) (by omega)] at c; rwa [if_neg c] at h
  | some x =>
    have hx := hw x rfl
    have h : Q (nI (if x < s then 268435456 else if r < 268435456 then 64 * s + dv d + r else 268435456)) := h
    have ne : ¬ nI x = -1 := by rw [pn_eq, pn_n (by omega), show (-1 : Int32).toInt = -1 from rfl]; omega
    have eF : (268435456 : Int32).toInt = 268435456 := rfl
    show (¬ nI x = -1 → _) ∧ (nI x = -1 → _)
    refine ⟨fun _ => ⟨fun c => ?_, fun c => ⟨fun e => ⟨fun f => ?_, fun f => ?_⟩, fun e => ?_⟩⟩, fun c => absurd c ne⟩
    · have c : nI x < nI s := c
      rw [nI_ltI (by omega) (by omega)] at c
      rw [if_pos c] at h; exact h
    · have c : ¬ nI x < nI s := c
      rw [nI_ltI (by omega) (by omega)] at c
      rw [pn_lt, pn_n (by omega), eF] at e
      rw [pn_le, t0, cd_int (by omega)] at f
      rw [if_neg c, if_pos (by omega)] at h
      have e1 : cd d = nI (d - 3) := pk_sub (by omega)
      rw [e1, show (64 : Int32) = nI 64 from rfl, pk_mul, nI_add, nI_add, show s * 64 + (d - 3) + r = 64 * s + dv d + r by unfold dv; omega]
      exact h
    · have c : ¬ nI x < nI s := c
      rw [nI_ltI (by omega) (by omega)] at c
      rw [pn_lt, pn_n (by omega), eF] at e
      rw [pn_le, t0, cd_int (by omega)] at f
      rw [if_neg c, if_pos (by omega)] at h
      have e1 : -cd d = nI (3 - d) := by unfold cd; rw [Int32.neg_sub]; exact pk_sub (by omega)
      rw [e1, show (64 : Int32) = nI 64 from rfl, pk_mul, nI_add, nI_add, show s * 64 + (3 - d) + r = 64 * s + dv d + r by unfold dv; omega]
      exact h
    · have c : ¬ nI x < nI s := c
      rw [nI_ltI (by omega) (by omega)] at c
      rw [pn_lt, pn_n (by omega), eF] at e
      rw [if_neg c, if_neg (by omega)] at h
      exact h
theorem p4_leanOf {M : zM} {o n k a b c : Nat} {K V B : Nat → Int32} {Q : Int32 → Prop} (hs : sk M o n K V B) (hg : rg n V B) (hk : k + 1 < n) (ha : a ≤ 6) (hb : b ≤ 6) (hc : c ≤ 6) (h : ∀ r : Int32, r.toInt = (V k).toInt - (V (k + 1)).toInt + 3 * ((b : Int) - c) - ((a : Int) - 3) → Q r) : wX4_leanOf M o (nI k) (cd a) (cd b) (cd c) Q := by
  have h12 := hg.2.1
  unfold wX4_leanOf
  rw [nI_1, cl_of (by omega), cl_of (by omega)]
  refine ⟨vp_of (by omega) (by omega), vp_of (by omega) (by omega), fun x7 e7 x8 e8 => h _ ?_⟩
  rw [hs.2.2.1 (k + 1) hk] at e7
  rw [hs.2.2.1 k (by omega), e7] at e8
  have v1 := hg.2.2.1 k (by omega)
  have v2 := hg.2.2.1 (k + 1) hk
  have ia := cd_int (a := a) (by omega)
  have ib := cd_int (a := b) (by omega)
  have ic := cd_int (a := c) (by omega)
  have i1 : (V k - V (k + 1)).toInt = (V k).toInt - (V (k + 1)).toInt := pn_sub (by omega) (by omega)
  have i2 : (cd b - cd c).toInt = (b : Int) - c := by rw [pn_sub (by rw [ib, ic]; omega) (by rw [ib, ic]; omega), ib, ic]; omega
  have e3 : (3 : Int32).toInt = 3 := rfl
  have i3 : (3 * (cd b - cd c)).toInt = 3 * ((b : Int) - c) := by rw [pn_mul (by rw [i2, e3]; omega) (by rw [i2, e3]; omega), i2, e3]
  have i4 : (V k - V (k + 1) + 3 * (cd b - cd c)).toInt = (V k).toInt - (V (k + 1)).toInt + 3 * ((b : Int) - c) := by rw [pn_add (by rw [i1, i3]; omega) (by rw [i1, i3]; omega), i1, i3]
  rw [e8, pn_sub (by rw [i4, ia]; omega) (by rw [i4, ia]; omega), i4, ia]
theorem st_abs {n k a b c d : Nat} {K V B : Nat → Int32} {r : Int32} (hg : rg n V B) (hk : k + 1 < n) (ha : a ≤ 6) (hb : b ≤ 6) (hc : c ≤ 6) (hd : d ≤ 6) (hn : ¬ (K k = 3 ∨ K (k + 1) = 3)) (hr : r.toInt = (V k).toInt - (V (k + 1)).toInt + 3 * ((b : Int) - c) - ((a : Int) - 3)) : zabs (r + cd d) = nI (bS K V k a b c d) := by
  have v1 := hg.2.2.1 k (by omega)
  have v2 := hg.2.2.1 (k + 1) hk
  have id := cd_int (a := d) (by omega)
  have i1 : (r + cd d).toInt = (V k).toInt - (V (k + 1)).toInt + 3 * ((b : Int) - c) - a + d := by
    rw [pn_add (by rw [hr, id]; omega) (by rw [hr, id]; omega), hr, id]; omega
  unfold bS
  rw [if_neg hn, pn_eq, zabs_int (by rw [i1]; omega), i1, pn_n (by omega)]
  split <;> omega
def tR (t : Nat → Int32) (n : Nat) (K V B : Nat → Int32) (F : Nat) (g : Nat → Nat → Nat → Nat) (k : Nat) : Prop := ∀ a b c, ir n K B ((k : Int) - 1) a → ir n K B (k : Int) b → ir n K B ((k : Int) + 1) c → t (343 * k + 49 * a + 7 * b + c) = nI (bT n K V B F g (n - 1 - k) a b c)
theorem tR_s {t : Nat → Int32} {n : Nat} {K V B : Nat → Int32} {F : Nat} {g : Nat → Nat → Nat → Nat} {k j : Nat} (h : tR t n K V B F g (k + 1)) (hk : k + 2 + j = n) {b c d : Nat} (hb : ir n K B (k : Int) b) (hc : ir n K B ((k : Int) + 1) c) (hd : ir n K B ((k : Int) + 2) d) : t (343 * (k + 1) + 49 * b + 7 * c + d) = nI (bT n K V B F g j b c d) := by
  have := h b c d (by rwa [show ((k + 1 : Nat) : Int) - 1 = k by omega]) (by rwa [show ((k + 1 : Nat) : Int) = (k : Int) + 1 by omega]) (by rwa [show ((k + 1 : Nat) : Int) + 1 = (k : Int) + 2 by omega])
  rw [this, show n - 1 - (k + 1) = j by omega]
section SA
variable {M : zM} {o n k j : Nat} {K V B : Nat → Int32} {w : Option Nat}
theorem p4_place3 {N : zM} {b c : Nat} {Q : Int32 → Prop} (h : Q (nI (343 * (k + 1) + 49 * b + 7 * c + 3))) : wX4_placeOf N (nI k + 1) (cd b) (cd c) 0 Q := by
  have := p4_placeOf (M := N) (k := k + 1) (a := b) (b := c) (c := 3) h
  rwa [cd_3, ← nI_1] at this
theorem p4_leastFrom {a b c : Nat} {Q : Int32 → Prop} (hs : sk M o n K V B) (hg : rg n V B) (hl : M o 3 = lm w) (hw : ∀ x, w = some x → x ≤ 5000) (hk : k + 2 + j = n) (ht : tR (M (o + 6)) n K V B 268435456 (gC w) (k + 1)) (ha : a ≤ 6) (ib : ir n K B (k : Int) b) (ic : ir n K B ((k : Int) + 1) c) (h : Q (nI (bT n K V B 268435456 (gC w) (j + 1) a b c))) : wX4_leastFrom M o (nI k) (cd a) (cd b) (cd c) Q := by
  have h12 := hg.2.1
  have hb := ir_le hg ib
  have hc := ir_le hg ic
  unfold wX4_leastFrom
  refine p2_reachI hg hs.1 hs.2.1 hs.2.2.2 (p2_isEased hs.1 h12 (by omega) (p4_leanOf hs hg (by omega) ha hb hc (fun r9 e9 => p4_place3 ?_)))
  rw [t_p2 (by omega), hs.2.1 k (by omega), hs.2.1 (k + 1) (by omega)]
  rw [bT, show n - 2 - j = k by omega, show (n : Int) - j = (k : Int) + 2 by omega] at h
  have hr := bR_le (K := K) hg ((k : Int) + 2)
  have hd : ∀ d, 3 ≤ d + bR n K B ((k : Int) + 2) → d ≤ 3 + bR n K B ((k : Int) + 2) → ir n K B ((k : Int) + 2) d := fun d a b => ⟨a, b⟩
  generalize bR n K B ((k : Int) + 2) = r at *
  rw [cd_neg hr]
  have key : ∀ e i, i + e = 2 * r + 1 → lpX4_leastFrom_54 M o (nI r) (if K k = 3 ∨ K (k + 1) = 3 then 1 else 0) r9 (nI (343 * (k + 1) + 49 * b + 7 * c + 3)) Q (e + 1) (nI (mn 268435456 (fun d => gC w (bS K V k a b c d) d (bT n K V B 268435456 (gC w) j b c d)) (3 - r) i)) (cd (3 - r + i)) := by
    intro e
    induction e with
    | zero =>
      intro i hi
      obtain rfl : i = 2 * r + 1 := by omega
      unfold lpX4_leastFrom_54
      exact ⟨fun _ => h, fun q => absurd ((cd_lt (by omega) (by omega)).2 (by omega)) q⟩
    | succ e ih =>
      intro i hi
      have hd6 : 3 - r + i ≤ 6 := by omega
      have hm := mn_le (acc := 268435456) (f := fun d => gC w (bS K V k a b c d) d (bT n K V B 268435456 (gC w) j b c d)) (lo := 3 - r) i
      have hir := hd (3 - r + i) (by omega) (by omega)
      have hs6 := bS_le (K := K) hg (show k + 1 < n by omega) ha hb hc hd6
      have jn : ∀ x13, x13 = nI (bS K V k a b c (3 - r + i)) → jnX4_leastFrom_79 M o (nI (343 * (k + 1) + 49 * b + 7 * c + 3)) (nI (mn 268435456 (fun d => gC w (bS K V k a b c d) d (bT n K V B 268435456 (gC w) j b c d)) (3 - r) i)) (cd (3 - r + i)) (lpX4_leastFrom_54 M o (nI r) (if K k = 3 ∨ K (k + 1) = 3 then 1 else 0) r9 (nI (343 * (k + 1) + 49 * b + 7 * c + 3)) Q (e + 1)) x13 := by
        intro x13 e13
        unfold jnX4_leastFrom_79
        have hT := bT_le (n := n) (K := K) (V := V) (B := B) (F := 268435456) (g := gC w) j b c (3 - r + i)
        rw [cd_add (by omega) hd6, cl_of (by omega), tR_s ht hk ib ic hir, e13]
        refine ⟨vp_of (by omega) (by omega), p4_costOf hl hw hs6 hd6 hT ?_⟩
        have hi2 := ih (i + 1) (by omega)
        rw [mn] at hi2
        have hG : gC w (bS K V k a b c (3 - r + i)) (3 - r + i) (bT n K V B 268435456 (gC w) j b c (3 - r + i)) < 2 ^ 31 := by
          cases w with
          | none =>
            show (if bS K V k a b c (3 - r + i) ≤ bT n K V B 268435456 (gC none) j b c (3 - r + i) then bT n K V B 268435456 (gC none) j b c (3 - r + i) else bS K V k a b c (3 - r + i)) < 2 ^ 31
            split <;> omega
          | some x =>
            have := dv_le hd6
            show (if x < bS K V k a b c (3 - r + i) then 268435456 else if bT n K V B 268435456 (gC (some x)) j b c (3 - r + i) < 268435456 then 64 * bS K V k a b c (3 - r + i) + dv (3 - r + i) + bT n K V B 268435456 (gC (some x)) j b c (3 - r + i) else 268435456) < 2 ^ 31
            split
            · omega
            · split <;> omega
        refine ⟨fun q x15 e15 => ?_, fun q x16 e16 => ?_⟩
        · rw [nI_leI (by omega) hG] at q
          rw [if_pos q] at hi2
          rw [e15, cd_s]; exact hi2
        · rw [nI_leI (by omega) hG] at q
          rw [if_neg q] at hi2
          rw [e16, cd_s]; exact hi2
      unfold lpX4_leastFrom_54
      refine ⟨fun q => absurd ((cd_lt (by omega) (by omega)).1 q) (by omega), fun _ => ⟨fun z => jn _ ?_, fun z => jn _ ?_⟩⟩
      · have hn : ¬ (K k = 3 ∨ K (k + 1) = 3) := fun q => by rw [if_pos q] at z; exact absurd z (by decide)
        exact st_abs hg (by omega) ha hb hc hd6 hn e9
      · have hn : K k = 3 ∨ K (k + 1) = 3 := by
          by_cases q : K k = 3 ∨ K (k + 1) = 3
          · exact q
          · rw [if_neg q] at z; exact absurd rfl z
        unfold bS
        rw [if_pos hn]; rfl
  exact ⟨2 * r + 1 + 1, key (2 * r + 1) 0 (by omega)⟩
end SA
/-- the table, filled down to a place -/
def tI (t : Nat → Int32) (n : Nat) (K V B : Nat → Int32) (F : Nat) (g : Nat → Nat → Nat → Nat) (k a b c : Nat) : Prop := (∀ k', k < k' → k' < n → tR t n K V B F g k') ∧ ∀ a' b' c', ir n K B ((k : Int) - 1) a' → ir n K B (k : Int) b' → ir n K B ((k : Int) + 1) c' → (a' < a ∨ (a' = a ∧ (b' < b ∨ (b' = b ∧ c' < c)))) → t (343 * k + 49 * a' + 7 * b' + c') = nI (bT n K V B F g (n - 1 - k) a' b' c')
section TI
variable {t : Nat → Int32} {n : Nat} {K V B : Nat → Int32} {F : Nat} {g : Nat → Nat → Nat → Nat} {k a b c : Nat}
theorem tI_s {v : Int32} (hg : rg n V B) (h : tI t n K V B F g k a b c) (ha : a ≤ 6) (hb : b ≤ 6) (hc : c ≤ 6) (hv : v = nI (bT n K V B F g (n - 1 - k) a b c)) : tI (upd t (343 * k + 49 * a + 7 * b + c) v) n K V B F g k a b (c + 1) := by
  refine ⟨fun k' h1 h2 a' b' c' i1 i2 i3 => ?_, fun a' b' c' i1 i2 i3 hl => ?_⟩
  · rw [pk_un (by omega)]
    exact h.1 k' h1 h2 a' b' c' i1 i2 i3
  · have l1 := ir_le hg i1
    have l2 := ir_le hg i2
    have l3 := ir_le hg i3
    by_cases e : 343 * k + 49 * a' + 7 * b' + c' = 343 * k + 49 * a + 7 * b + c
    · obtain rfl : a' = a := by omega
      obtain rfl : b' = b := by omega
      obtain rfl : c' = c := by omega
      rw [pk_us, hv]
    · rw [pk_un e]
      refine h.2 a' b' c' i1 i2 i3 ?_
      omega
theorem tI_b (h : tI t n K V B F g k a b (4 + bR n K B ((k : Int) + 1))) : tI t n K V B F g k a (b + 1) (3 - bR n K B ((k : Int) + 1)) := by
  refine ⟨h.1, fun a' b' c' i1 i2 i3 hl => h.2 a' b' c' i1 i2 i3 ?_⟩
  unfold ir at i3
  omega
theorem tI_a (h : tI t n K V B F g k a (4 + bR n K B (k : Int)) (3 - bR n K B ((k : Int) + 1))) : tI t n K V B F g k (a + 1) (3 - bR n K B (k : Int)) (3 - bR n K B ((k : Int) + 1)) := by
  refine ⟨h.1, fun a' b' c' i1 i2 i3 hl => h.2 a' b' c' i1 i2 i3 ?_⟩
  unfold ir at i2 i3
  omega
theorem tI_0 (h : ∀ k', k < k' → k' < n → tR t n K V B F g k') : tI t n K V B F g k (3 - bR n K B ((k : Int) - 1)) (3 - bR n K B (k : Int)) (3 - bR n K B ((k : Int) + 1)) := by
  refine ⟨h, fun a' b' c' i1 i2 i3 hl => ?_⟩
  exfalso
  unfold ir at i1 i2 i3
  omega
theorem tI_n {b c : Nat} (h : tI t n K V B F g k (4 + bR n K B ((k : Int) - 1)) b c) : ∀ k', k ≤ k' → k' < n → tR t n K V B F g k' := by
  intro k' h1 h2
  by_cases e : k' = k
  · subst e
    intro a' b' c' i1 i2 i3
    refine h.2 a' b' c' i1 i2 i3 ?_
    unfold ir at i1
    omega
  · exact h.1 k' (by omega) h2
end TI
section SB
variable {M : zM} {o n : Nat} {K V B : Nat → Int32} {w : Option Nat}
theorem p4_fillChoices {k j : Nat} {Q : zM → Prop} (hs : sk M o n K V B) (hg : rg n V B) (hl : M o 3 = lm w) (hw : ∀ x, w = some x → x ≤ 5000) (hk : k + 2 + j = n) (ht : ∀ k', k < k' → k' < n → tR (M (o + 6)) n K V B 268435456 (gC w) k') (h : ∀ N, fr M N (o + 6) → (∀ k', k ≤ k' → k' < n → tR (N (o + 6)) n K V B 268435456 (gC w) k') → Q N) : wX4_fillChoices M o (nI k) (nI (bR n K B ((k : Int) - 1))) (nI (bR n K B (k : Int))) (nI (bR n K B ((k : Int) + 1))) Q := by
  have h12 := hg.2.1
  have ra := bR_le (K := K) hg ((k : Int) - 1)
  have rb := bR_le (K := K) hg (k : Int)
  have rc := bR_le (K := K) hg ((k : Int) + 1)
  have key3 : ∀ a b, ir n K B ((k : Int) - 1) a → ir n K B (k : Int) b → ∀ C : Int32 → zM → Prop, (∀ x N, fr M N (o + 6) → tI (N (o + 6)) n K V B 268435456 (gC w) k a b (4 + bR n K B ((k : Int) + 1)) → C x N) → ∀ e c, c + e = 4 + bR n K B ((k : Int) + 1) → 3 ≤ c + bR n K B ((k : Int) + 1) → ∀ N, fr M N (o + 6) → tI (N (o + 6)) n K V B 268435456 (gC w) k a b c → lpX4_fillChoices_25 o (nI k) (nI (bR n K B ((k : Int) + 1))) (cd a) (cd b) C (e + 1) (cd c) N := by
    intro a b ia ib C hC e
    induction e with
    | zero =>
      intro c hc hc3 N fN tN
      obtain rfl : c = 4 + bR n K B ((k : Int) + 1) := by omega
      unfold lpX4_fillChoices_25
      exact ⟨fun _ => hC _ N fN tN, fun q => absurd ((cd_lt (by omega) (by omega)).2 (by omega)) q⟩
    | succ e ih =>
      intro c hc hc3 N fN tN
      have ic : ir n K B ((k : Int) + 1) c := ⟨by omega, by omega⟩
      have a6 := ir_le hg ia
      have b6 := ir_le hg ib
      have c6 := ir_le hg ic
      unfold lpX4_fillChoices_25
      refine ⟨fun q => absurd ((cd_lt (by omega) (by omega)).1 q) (by omega), fun _ => p4_placeOf (p4_leastFrom (sk_fr hs fN (by omega)) hg (by rw [fN o (by omega)]; exact hl) hw hk (tN.1 (k + 1) (by omega) (by omega)) a6 ib ic ⟨vp_of (by omega) (by omega), fun M21 e21 x22 e22 => ?_⟩)⟩
      rw [e22, cd_s]
      refine ih (c + 1) (by omega) (by omega) M21 (fr_up fN e21) ?_
      rw [e21, va_up_self, cl_of (by omega)]
      exact tI_s hg tN a6 b6 c6 (by rw [show n - 1 - k = j + 1 by omega])
  have key2 : ∀ a, ir n K B ((k : Int) - 1) a → ∀ C : Int32 → zM → Prop, (∀ x N, fr M N (o + 6) → tI (N (o + 6)) n K V B 268435456 (gC w) k a (4 + bR n K B (k : Int)) (3 - bR n K B ((k : Int) + 1)) → C x N) → ∀ e b, b + e = 4 + bR n K B (k : Int) → 3 ≤ b + bR n K B (k : Int) → ∀ N, fr M N (o + 6) → tI (N (o + 6)) n K V B 268435456 (gC w) k a b (3 - bR n K B ((k : Int) + 1)) → lpX4_fillChoices_14 o (nI k) (nI (bR n K B (k : Int))) (nI (bR n K B ((k : Int) + 1))) (cd a) C (e + 1) (cd b) N := by
    intro a ia C hC e
    induction e with
    | zero =>
      intro b hb hb3 N fN tN
      obtain rfl : b = 4 + bR n K B (k : Int) := by omega
      unfold lpX4_fillChoices_14
      exact ⟨fun _ => hC _ N fN tN, fun q => absurd ((cd_lt (by omega) (by omega)).2 (by omega)) q⟩
    | succ e ih =>
      intro b hb hb3 N fN tN
      have ib : ir n K B (k : Int) b := ⟨by omega, by omega⟩
      unfold lpX4_fillChoices_14
      rw [cd_neg rc]
      refine ⟨fun q => absurd ((cd_lt (by omega) (by omega)).1 q) (by omega), fun _ => ⟨_, key3 a b ia ib _ (fun x N2 fN2 tN2 x18 e18 => ?_) (2 * bR n K B ((k : Int) + 1) + 1) _ (by omega) (by omega) N fN tN⟩⟩
      rw [e18, cd_s]
      exact ih (b + 1) (by omega) (by omega) N2 fN2 (tI_b tN2)
  have key1 : ∀ e a, a + e = 4 + bR n K B ((k : Int) - 1) → 3 ≤ a + bR n K B ((k : Int) - 1) → ∀ N, fr M N (o + 6) → tI (N (o + 6)) n K V B 268435456 (gC w) k a (3 - bR n K B (k : Int)) (3 - bR n K B ((k : Int) + 1)) → lpX4_fillChoices_4 o (nI k) (nI (bR n K B ((k : Int) - 1))) (nI (bR n K B (k : Int))) (nI (bR n K B ((k : Int) + 1))) Q (e + 1) (cd a) N := by
    intro e
    induction e with
    | zero =>
      intro a ha ha3 N fN tN
      obtain rfl : a = 4 + bR n K B ((k : Int) - 1) := by omega
      unfold lpX4_fillChoices_4
      exact ⟨fun _ => h N fN (tI_n tN), fun q => absurd ((cd_lt (by omega) (by omega)).2 (by omega)) q⟩
    | succ e ih =>
      intro a ha ha3 N fN tN
      have ia : ir n K B ((k : Int) - 1) a := ⟨by omega, by omega⟩
      unfold lpX4_fillChoices_4
      rw [cd_neg rb]
      refine ⟨fun q => absurd ((cd_lt (by omega) (by omega)).1 q) (by omega), fun _ => ⟨_, key2 a ia _ (fun x N2 fN2 tN2 x13 e13 => ?_) (2 * bR n K B (k : Int) + 1) _ (by omega) (by omega) N fN tN⟩⟩
      rw [e13, cd_s]
      exact ih (a + 1) (by omega) (by omega) N2 fN2 (tI_a tN2)
  unfold wX4_fillChoices
  rw [cd_neg ra]
  exact ⟨_, key1 (2 * bR n K B ((k : Int) - 1) + 1) _ (by omega) (by omega) M (fun _ _ => rfl) (tI_0 ht)⟩
theorem p4_fillTable {Q : zM → Prop} (hs : sk M o n K V B) (hg : rg n V B) (hl : M o 3 = lm w) (hw : ∀ x, w = some x → x ≤ 5000) (h : ∀ N, fr M N (o + 6) → (∀ k, k < n → tR (N (o + 6)) n K V B 268435456 (gC w) k) → Q N) : wX4_fillTable M o Q := by
  have h12 := hg.2.1
  have h3 := hg.1
  have lev : ∀ m, m + 1 ≤ n → ∀ N, fr M N (o + 6) → (∀ k, m ≤ k → k < n → tR (N (o + 6)) n K V B 268435456 (gC w) k) → lpX4_fillTable_42 o Q (m + 1) (nI m - 1) N := by
    intro m
    induction m with
    | zero =>
      intro _ N fN tN
      unfold lpX4_fillTable_42
      exact ⟨fun _ => h N fN (fun k hk => tN k (by omega) hk), fun q => absurd (by decide) q⟩
    | succ m ih =>
      intro hm N fN tN
      have hsN := sk_fr hs fN (by omega)
      unfold lpX4_fillTable_42
      rw [nI_pred]
      refine ⟨fun q => absurd q (nI_pos (by omega)), fun _ => p2_reachI hg hsN.1 hsN.2.1 hsN.2.2.2 (p2_reachI hg hsN.1 hsN.2.1 hsN.2.2.2 (p2_reachI hg hsN.1 hsN.2.1 hsN.2.2.2 ?_))⟩
      rw [t_m1 (by omega), pn_n (by omega), t_p1 (by omega)]
      refine p4_fillChoices (j := n - 2 - m) hsN hg (by rw [fN o (by omega)]; exact hl) hw (by omega) (fun k' h1 h2 => tN k' (by omega) h2) (fun N2 fN2 tN2 x13 e13 => ?_)
      rw [e13, show nI m + -1 = nI m - 1 from (Int32.sub_eq_add_neg _ _).symm]
      exact ih (by omega) N2 (fun x hx => by rw [fN2 x hx, fN x hx]) tN2
  have zer : ∀ C : Int32 → zM → Prop, (∀ x N, fr M N (o + 6) → (∀ i, i < 343 → N (o + 6) (343 * (n - 1) + i) = 0) → C x N) → ∀ e i, i + e = 343 → ∀ N, fr M N (o + 6) → (∀ i', i' < i → N (o + 6) (343 * (n - 1) + i') = 0) → lpX4_fillTable_12 M o C (e + 1) (nI i) N := by
    intro C hC e
    induction e with
    | zero =>
      intro i hi N fN zN
      obtain rfl : i = 343 := by omega
      unfold lpX4_fillTable_12
      exact ⟨fun _ => hC _ N fN zN, fun q => absurd (show (343 : Int32) ≤ nI 343 by decide) q⟩
    | succ e ih =>
      intro i hi N fN zN
      unfold lpX4_fillTable_12
      refine ⟨fun q => absurd q (nI_ge (a := i) (b := 343) (by omega) (by decide)), fun _ x14 e14 => ?_⟩
      rw [hs.1, nm1 (by omega), show (343 : Int32) = nI 343 from rfl, pk_mul] at e14
      rw [e14, nI_add, cl_of (by omega)]
      refine ⟨vp_of (by omega) (by omega), fun M15 e15 x16 e16 => ?_⟩
      rw [e16, nI_1]
      refine ih (i + 1) (by omega) M15 (fr_up fN e15) (fun i' hi' => ?_)
      rw [e15, va_up_self]
      by_cases q : i' = i
      · subst q; rw [show 343 * (n - 1) + i' = (n - 1) * 343 + i' by omega, pk_us]
      · rw [pk_un (by omega)]; exact zN i' (by omega)
  unfold wX4_fillTable
  refine ⟨_, zer _ (fun x N fN zN => ⟨n - 1 + 1, ?_⟩) 343 0 (by omega) M (fun _ _ => rfl) (fun i' hi' => by omega)⟩
  rw [hs.1, nm1 (by omega)]
  refine lev (n - 1) (by omega) N fN (fun k h1 h2 => ?_)
  obtain rfl : k = n - 1 := by omega
  intro a b c ia ib ic
  have l1 := ir_le hg ia
  have l2 := ir_le hg ib
  have l3 := ir_le hg ic
  rw [show 343 * (n - 1) + 49 * a + 7 * b + c = 343 * (n - 1) + (49 * a + 7 * b + c) by omega, zN _ (by omega), show n - 1 - (n - 1) = 0 by omega]
  rfl
theorem p4_costOfFirst {b c : Nat} {Q : Int32 → Prop} (hg : rg n V B) (hl : M o 3 = lm w) (hw : ∀ x, w = some x → x ≤ 5000) (ht : tR (M (o + 6)) n K V B 268435456 (gC w) 0) (ib : ir n K B 0 b) (ic : ir n K B 1 c) (h : Q (nI (hC w (bT n K V B 268435456 (gC w) (n - 1) 3 b c) b c))) : wX4_costOfFirst M o (cd b) (cd c) Q := by
  have hb := ir_le hg ib
  have hc := ir_le hg ic
  unfold wX4_costOfFirst
  have pl := p4_placeOf (M := M) (k := 0) (a := 3) (b := b) (c := c) (Q := fun r5 => vp_in r5 4116 ∧ ((¬ (M o 3) = (-1 : Int32)) → (∀ x6 : Int32, x6 = (((M (o + 6) r5.toNatClampNeg) + (zabs (cd b))) + (zabs (cd c))) → Q x6)) ∧ (((M o 3) = (-1 : Int32)) → (Q (M (o + 6) r5.toNatClampNeg))))
  rw [cd_3, nI_0] at pl
  refine pl ⟨vp_of (by omega) (by omega), ?_⟩
  have e := ht 3 b c (ir_m1 n K B) ib ic
  rw [cl_of (by omega), e, hl, cd_abs hb, cd_abs hc]
  cases w with
  | none => exact ⟨fun q => absurd rfl q, fun _ => h⟩
  | some x =>
    have hx := hw x rfl
    have ne : ¬ nI x = -1 := by rw [pn_eq, pn_n (by omega), show (-1 : Int32).toInt = -1 from rfl]; omega
    refine ⟨fun _ x6 e6 => ?_, fun q => absurd q ne⟩
    rw [nI_add, nI_add] at e6
    rw [e6]; exact h
theorem hC_lt {b c x : Nat} (hx : x ≤ 268435456) (hb : b ≤ 6) (hc : c ≤ 6) : hC w x b c < 2 ^ 31 := by
  have h1 := dv_le hb
  have h2 := dv_le hc
  cases w with
  | none => show x < 2 ^ 31; omega
  | some y => show x + dv b + dv c < 2 ^ 31; omega
theorem zmin_n {a b : Nat} (ha : a < 2 ^ 31) (hb : b < 2 ^ 31) : zmin (nI a) (nI b) = nI (if a ≤ b then a else b) := by
  unfold zmin
  by_cases c : a ≤ b
  · rw [if_pos c, if_neg (fun q => by rw [nI_ltI hb ha] at q; omega)]
  · rw [if_neg c, if_pos ((nI_ltI hb ha).2 (by omega))]
theorem p4_leastOfAll {Q : Int32 → Prop} (hs : sk M o n K V B) (hg : rg n V B) (hl : M o 3 = lm w) (hw : ∀ x, w = some x → x ≤ 5000) (ht : tR (M (o + 6)) n K V B 268435456 (gC w) 0) (h : Q (nI (bC n K V B w))) : wX4_leastOfAll M o Q := by
  have rb := bR_le (K := K) hg 0
  have rc := bR_le (K := K) hg 1
  unfold wX4_leastOfAll
  refine p2_reachI hg hs.1 hs.2.1 hs.2.2.2 (p2_reachI hg hs.1 hs.2.1 hs.2.2.2 ?_)
  rw [t0, t1, cd_neg rb]
  unfold bC at h
  have key2 : ∀ p, p < 2 * bR n K B 0 + 1 → ∀ C : Int32 → Int32 → Prop, (∀ x, C (nI (mn (mn2 268435456 (fun b c => hC w (bT n K V B 268435456 (gC w) (n - 1) 3 b c) b c) (3 - bR n K B 0) (3 - bR n K B 1) (2 * bR n K B 1 + 1) p) ((fun b c => hC w (bT n K V B 268435456 (gC w) (n - 1) 3 b c) b c) (3 - bR n K B 0 + p)) (3 - bR n K B 1) (2 * bR n K B 1 + 1))) x) → ∀ e i, i + e = 2 * bR n K B 1 + 1 → lpX4_leastOfAll_35 M o (nI (bR n K B 1)) (cd (3 - bR n K B 0 + p)) C (e + 1) (nI (mn (mn2 268435456 (fun b c => hC w (bT n K V B 268435456 (gC w) (n - 1) 3 b c) b c) (3 - bR n K B 0) (3 - bR n K B 1) (2 * bR n K B 1 + 1) p) ((fun b c => hC w (bT n K V B 268435456 (gC w) (n - 1) 3 b c) b c) (3 - bR n K B 0 + p)) (3 - bR n K B 1) i)) (cd (3 - bR n K B 1 + i)) := by
    intro p hp C hC2 e
    induction e with
    | zero =>
      intro i hi
      obtain rfl : i = 2 * bR n K B 1 + 1 := by omega
      unfold lpX4_leastOfAll_35
      exact ⟨fun _ => hC2 _, fun q => absurd ((cd_lt (by omega) (by omega)).2 (by omega)) q⟩
    | succ e ih =>
      intro i hi
      have ib := ir_lo (K := K) hg (i := 0) hp
      have ic := ir_lo (K := K) hg (i := 1) (show i < 2 * bR n K B 1 + 1 by omega)
      unfold lpX4_leastOfAll_35
      refine ⟨fun q => absurd ((cd_lt (by omega) (by omega)).1 q) (by omega), fun _ => p4_costOfFirst hg hl hw ht ib ic (fun x13 e13 => ?_)⟩
      have m1 := mn2_le (acc := 268435456) (f := fun b c => hC w (bT n K V B 268435456 (gC w) (n - 1) 3 b c) b c) (lb := 3 - bR n K B 0) (lc := 3 - bR n K B 1) (cc := 2 * bR n K B 1 + 1) p
      have m2 := mn_le (acc := mn2 268435456 (fun b c => hC w (bT n K V B 268435456 (gC w) (n - 1) 3 b c) b c) (3 - bR n K B 0) (3 - bR n K B 1) (2 * bR n K B 1 + 1) p) (f := (fun b c => hC w (bT n K V B 268435456 (gC w) (n - 1) 3 b c) b c) (3 - bR n K B 0 + p)) (lo := 3 - bR n K B 1) i
      have m3 := hC_lt (w := w) (bT_le (n := n) (K := K) (V := V) (B := B) (F := 268435456) (g := gC w) (n - 1) 3 (3 - bR n K B 0 + p) (3 - bR n K B 1 + i)) (ir_le hg ib) (ir_le hg ic)
      rw [e13, cd_s, zmin_n (by omega) m3]
      have := ih (i + 1) (by omega)
      rw [mn] at this
      exact this
  have key1 : ∀ e p, p + e = 2 * bR n K B 0 + 1 → lpX4_leastOfAll_25 M o (nI (bR n K B 0)) (nI (bR n K B 1)) Q (e + 1) (nI (mn2 268435456 (fun b c => hC w (bT n K V B 268435456 (gC w) (n - 1) 3 b c) b c) (3 - bR n K B 0) (3 - bR n K B 1) (2 * bR n K B 1 + 1) p)) (cd (3 - bR n K B 0 + p)) := by
    intro e
    induction e with
    | zero =>
      intro p hp
      obtain rfl : p = 2 * bR n K B 0 + 1 := by omega
      unfold lpX4_leastOfAll_25
      exact ⟨fun _ => h, fun q => absurd ((cd_lt (by omega) (by omega)).2 (by omega)) q⟩
    | succ e ih =>
      intro p hp
      unfold lpX4_leastOfAll_25
      rw [cd_neg rc]
      refine ⟨fun q => absurd ((cd_lt (by omega) (by omega)).1 q) (by omega), fun _ => ⟨_, key2 p (by omega) _ (fun x x11 e11 => ?_) (2 * bR n K B 1 + 1) 0 (by omega)⟩⟩
      rw [e11, cd_s]
      exact ih (p + 1) (by omega)
  exact ⟨_, key1 (2 * bR n K B 0 + 1) 0 (by omega)⟩
end SB
