/-! PURE: best(), the reference's table -/
def sr (M : zM) (o n : Nat) (K V B : Nat → Int32) : Prop := M (o + 6) 0 = nI n ∧ (∀ k, k < n → rK (M (o + 6)) k = K k) ∧ (∀ k, k < n → rV (M (o + 6)) k = V k) ∧ (∀ k, k < n → rB (M (o + 6)) k = B k)
theorem sr_fr {M N : zM} {o n p : Nat} {K V B : Nat → Int32} (h : sr M o n K V B) (hf : fr M N p) (hp : o + 6 < p) : sr N o n K V B := by
  unfold sr
  rw [hf (o + 6) (by omega)]
  exact h
section RA
variable {M : zM} {o n : Nat} {K V B : Nat → Int32}
theorem p8_stepBy {k a b c d : Nat} {Q : Int32 → Prop} (hs : sr M o n K V B) (hg : rg n V B) (hk : k + 1 < n) (ha : a ≤ 6) (hb : b ≤ 6) (hc : c ≤ 6) (hd : d ≤ 6) (h : Q (nI (bS K V k a b c d))) : wX8_stepBy M o (nI k) (cd a) (cd b) (cd c) (cd d) Q := by
  have h12 := hg.2.1
  have v1 := hg.2.2.1 k (by omega)
  have v2 := hg.2.2.1 (k + 1) hk
  have ia := cd_int (a := a) (by omega)
  have ib := cd_int (a := b) (by omega)
  have ic := cd_int (a := c) (by omega)
  have id := cd_int (a := d) (by omega)
  have e2 : (2 : Int32).toInt = 2 := rfl
  unfold wX8_stepBy
  intro x8 e8
  rw [show (1 : Int32) = nI 1 from rfl, nI_4c] at e8
  rw [e8, cl_of (by omega)]
  refine ⟨vp_of (by omega) (by omega), fun x9 e9 x10 e10 => ?_⟩
  rw [show (4 : Int32) = nI 4 from rfl] at e10
  rw [show ((2 : Int32) + nI 4 * nI k + nI 4) = nI (2 + 4 * k + 4) from nI_4c k 4] at e10
  rw [e10, nI_1, cl_of (by omega)]
  refine ⟨vp_of (by omega) (by omega), fun x11 e11 => p8_isLoose (by omega) (by omega) (by omega) ?_⟩
  rw [hs.2.1 k (by omega), hs.2.1 (k + 1) hk]
  have w1 : M (o + 6) (2 + 4 * k + 1) = V k := by
    have := hs.2.2.1 k (by omega)
    unfold rV at this
    rw [← this]; congr 1; omega
  have w2 : M (o + 6) (2 + 4 * k + 4 + 1) = V (k + 1) := by
    have := hs.2.2.1 (k + 1) hk
    unfold rV at this
    rw [← this]; congr 1; omega
  rw [w1] at e9
  rw [w2] at e11
  have m1 : (2 * cd b).toInt = 2 * ((b : Int) - 3) := by rw [pn_mul (by rw [ib, e2]; omega) (by rw [ib, e2]; omega), ib, e2]
  have m2 : (2 * cd c).toInt = 2 * ((c : Int) - 3) := by rw [pn_mul (by rw [ic, e2]; omega) (by rw [ic, e2]; omega), ic, e2]
  have m9 : x9.toInt = (V k).toInt + 2 * ((b : Int) - 3) := by rw [e9, pn_add (by rw [m1]; omega) (by rw [m1]; omega), m1]
  have m11 : x11.toInt = (V (k + 1)).toInt + 2 * ((c : Int) - 3) := by rw [e11, pn_add (by rw [m2]; omega) (by rw [m2]; omega), m2]
  have m3 : (x9 - cd a).toInt = (V k).toInt + 2 * ((b : Int) - 3) - ((a : Int) - 3) := by rw [pn_sub (by rw [m9, ia]; omega) (by rw [m9, ia]; omega), m9, ia]
  have m4 : (x9 - cd a - cd c).toInt = (V k).toInt + 2 * ((b : Int) - 3) - ((a : Int) - 3) - ((c : Int) - 3) := by rw [pn_sub (by rw [m3, ic]; omega) (by rw [m3, ic]; omega), m3, ic]
  have m5 : (x11 - cd b).toInt = (V (k + 1)).toInt + 2 * ((c : Int) - 3) - ((b : Int) - 3) := by rw [pn_sub (by rw [m11, ib]; omega) (by rw [m11, ib]; omega), m11, ib]
  have m6 : (x11 - cd b - cd d).toInt = (V (k + 1)).toInt + 2 * ((c : Int) - 3) - ((b : Int) - 3) - ((d : Int) - 3) := by rw [pn_sub (by rw [m5, id]; omega) (by rw [m5, id]; omega), m5, id]
  have m7 : (x9 - cd a - cd c - (x11 - cd b - cd d)).toInt = (V k).toInt - (V (k + 1)).toInt + 3 * ((b : Int) - c) - a + d := by
    rw [pn_sub (by rw [m4, m6]; omega) (by rw [m4, m6]; omega), m4, m6]; omega
  unfold bS at h
  by_cases q : K k = 3 ∨ K (k + 1) = 3
  · rw [if_pos q] at h ⊢
    exact ⟨fun z => absurd z (by decide), fun _ => h⟩
  · rw [if_neg q] at h ⊢
    refine ⟨fun _ => p8_size ?_, fun z => absurd rfl z⟩
    have : zabs (x9 - cd a - cd c - (x11 - cd b - cd d)) = nI ((V k).toInt - (V (k + 1)).toInt + 3 * ((b : Int) - c) - a + d).natAbs := by
      rw [pn_eq, zabs_int (by rw [m7]; omega), m7, pn_n (by omega)]
      split <;> omega
    rw [this]; exact h
theorem p8_costBy {k j a b c d w : Nat} {Q : Int32 → Prop} (hs : sr M o n K V B) (hg : rg n V B) (hk : k + 2 + j = n) (hw : w ≤ 5000) (ht : tR (M (o + 12)) n K V B 1000000000 (gR w) (k + 1)) (ha : a ≤ 6) (ib : ir n K B (k : Int) b) (ic : ir n K B ((k : Int) + 1) c) (id : ir n K B ((k : Int) + 2) d) (h : Q (nI (gR w (bS K V k a b c d) d (bT n K V B 1000000000 (gR w) j b c d)))) : wX8_costBy M o (nI k) (cd a) (cd b) (cd c) (cd d) (nI w) Q := by
  have h12 := hg.2.1
  have hb := ir_le hg ib
  have hc := ir_le hg ic
  have hd := ir_le hg id
  have hs6 := bS_le (K := K) hg (show k + 1 < n by omega) ha hb hc hd
  have tl := bT_le (n := n) (K := K) (V := V) (B := B) (F := 1000000000) (g := gR w) j b c d
  have h : Q (nI (if bS K V k a b c d ≤ w then (if bT n K V B 1000000000 (gR w) j b c d = 1000000000 then 1000000000 else 1000 * bS K V k a b c d + dv d + bT n K V B 1000000000 (gR w) j b c d) else 1000000000)) := h
  unfold wX8_costBy
  refine p8_stepBy hs hg (by omega) ha hb hc hd ⟨fun q => ?_, fun q => ?_⟩
  · rw [nI_leI (by omega) (by omega)] at q
    rw [if_pos q] at h
    rw [nI_1]
    refine p8_place ⟨vp_of (by omega) (by omega), ?_⟩
    rw [cl_of (by omega), tR_s ht hk ib ic id]
    unfold jnX8_costBy_41
    refine ⟨fun z => p8_size ?_, fun z => ?_⟩
    · have z : ¬ nI (bT n K V B 1000000000 (gR w) j b c d) = nI 1000000000 := z
      rw [if_neg (fun y => z (congrArg nI y))] at h
      rw [cd_abs hd, show (1000 : Int32) = nI 1000 from rfl, pk_mul, nI_add, nI_add]
      exact h
    · have z : nI (bT n K V B 1000000000 (gR w) j b c d) = nI 1000000000 := z
      rw [nI_eq (by omega) (by omega)] at z
      rw [if_pos z] at h
      exact h
  · rw [nI_leI (by omega) (by omega)] at q
    rw [if_neg q] at h
    unfold jnX8_costBy_41
    exact ⟨fun z => absurd rfl z, fun _ => h⟩
theorem p8_place0 {N : zM} {b c : Nat} {Q : Int32 → Prop} (h : Q (nI (343 * 0 + 49 * 3 + 7 * b + c))) : wX8_place N 0 0 (cd b) (cd c) Q := by
  have := p8_place (M := N) (k := 0) (a := 3) (b := b) (c := c) h
  rwa [cd_3, nI_0] at this
theorem gR_lt {w s d r : Nat} (hs : s ≤ 2022) (hd : d ≤ 6) (hr : r ≤ 1000000000) : gR w s d r < 2 ^ 31 := by
  have := dv_le hd
  unfold gR
  split
  · split <;> omega
  · omega
/-- the least behind three slews -/
theorem p8_leastR {k j a b c w : Nat} {C : Int32 → Int32 → Prop} (hs : sr M o n K V B) (hg : rg n V B) (hk : k + 2 + j = n) (hw : w ≤ 5000) (ht : tR (M (o + 12)) n K V B 1000000000 (gR w) (k + 1)) (ha : a ≤ 6) (ib : ir n K B (k : Int) b) (ic : ir n K B ((k : Int) + 1) c) (h : ∀ x, C (nI (bT n K V B 1000000000 (gR w) (j + 1) a b c)) x) : ∃ fu, lpX8_reckons_124 o (nI w) (nI k) (nI (bR n K B ((k : Int) + 2))) (cd a) (cd b) (cd c) M C fu (1000000000 : Int32) (cd (3 - bR n K B ((k : Int) + 2))) := by
  have hr := bR_le (K := K) hg ((k : Int) + 2)
  have hb := ir_le hg ib
  have hc := ir_le hg ic
  have h' : ∀ x, C (nI (mn 1000000000 (fun d => gR w (bS K V k a b c d) d (bT n K V B 1000000000 (gR w) j b c d)) (3 - bR n K B ((k : Int) + 2)) (2 * bR n K B ((k : Int) + 2) + 1))) x := by
    intro x
    have := h x
    rwa [bT, show n - 2 - j = k by omega, show (n : Int) - j = (k : Int) + 2 by omega] at this
  have key : ∀ e i, i + e = 2 * bR n K B ((k : Int) + 2) + 1 → lpX8_reckons_124 o (nI w) (nI k) (nI (bR n K B ((k : Int) + 2))) (cd a) (cd b) (cd c) M C (e + 1) (nI (mn 1000000000 (fun d => gR w (bS K V k a b c d) d (bT n K V B 1000000000 (gR w) j b c d)) (3 - bR n K B ((k : Int) + 2)) i)) (cd (3 - bR n K B ((k : Int) + 2) + i)) := by
    intro e
    induction e with
    | zero =>
      intro i hi
      obtain rfl : i = 2 * bR n K B ((k : Int) + 2) + 1 := by omega
      unfold lpX8_reckons_124
      exact ⟨fun _ => h' _, fun q => absurd ((cd_lt (by omega) (by omega)).2 (by omega)) q⟩
    | succ e ih =>
      intro i hi
      have id := ir_lo (K := K) hg (i := (k : Int) + 2) (show i < 2 * bR n K B ((k : Int) + 2) + 1 by omega)
      have hd := ir_le hg id
      have m1 := mn_le (acc := 1000000000) (f := fun d => gR w (bS K V k a b c d) d (bT n K V B 1000000000 (gR w) j b c d)) (lo := 3 - bR n K B ((k : Int) + 2)) i
      have m2 := gR_lt (w := w) (bS_le (K := K) hg (show k + 1 < n by omega) ha hb hc hd) hd (bT_le (n := n) (K := K) (V := V) (B := B) (F := 1000000000) (g := gR w) j b c (3 - bR n K B ((k : Int) + 2) + i))
      have hi2 := ih (i + 1) (by omega)
      rw [mn] at hi2
      unfold lpX8_reckons_124
      refine ⟨fun q => absurd ((cd_lt (by omega) (by omega)).1 q) (by omega), fun _ => p8_costBy hs hg hk hw ht ha ib ic id ⟨fun q x59 e59 => ?_, fun q x60 e60 => ?_⟩⟩
      · rw [nI_leI (by omega) m2] at q
        rw [if_pos q] at hi2
        rw [e59, cd_s]; exact hi2
      · rw [nI_leI (by omega) m2] at q
        rw [if_neg q] at hi2
        rw [e60, cd_s]; exact hi2
  exact ⟨_, key (2 * bR n K B ((k : Int) + 2) + 1) 0 (by omega)⟩
/-- one peg's rows of the table -/
theorem p8_level {k j w : Nat} {C : Int32 → zM → Prop} (hs : sr M o n K V B) (hg : rg n V B) (hk : k + 2 + j = n) (hw : w ≤ 5000) (ht : ∀ k', k < k' → k' < n → tR (M (o + 12)) n K V B 1000000000 (gR w) k') (h : ∀ x N, fr M N (o + 12) → (∀ k', k ≤ k' → k' < n → tR (N (o + 12)) n K V B 1000000000 (gR w) k') → C x N) : ∃ fu, lpX8_reckons_84 o (nI w) (nI k) (nI (bR n K B ((k : Int) - 1))) (nI (bR n K B (k : Int))) (nI (bR n K B ((k : Int) + 1))) (nI (bR n K B ((k : Int) + 2))) C fu (cd (3 - bR n K B ((k : Int) - 1))) M := by
  have h12 := hg.2.1
  have ra := bR_le (K := K) hg ((k : Int) - 1)
  have rb := bR_le (K := K) hg (k : Int)
  have rc := bR_le (K := K) hg ((k : Int) + 1)
  have rd := bR_le (K := K) hg ((k : Int) + 2)
  have key3 : ∀ a b, ir n K B ((k : Int) - 1) a → ir n K B (k : Int) b → ∀ C : Int32 → zM → Prop, (∀ x N, fr M N (o + 12) → tI (N (o + 12)) n K V B 1000000000 (gR w) k a b (4 + bR n K B ((k : Int) + 1)) → C x N) → ∀ e c, c + e = 4 + bR n K B ((k : Int) + 1) → 3 ≤ c + bR n K B ((k : Int) + 1) → ∀ N, fr M N (o + 12) → tI (N (o + 12)) n K V B 1000000000 (gR w) k a b c → lpX8_reckons_108 o (nI w) (nI k) (nI (bR n K B ((k : Int) + 1))) (nI (bR n K B ((k : Int) + 2))) (cd a) (cd b) C (e + 1) (cd c) N := by
    intro a b ia ib C hC e
    induction e with
    | zero =>
      intro c hc hc3 N fN tN
      obtain rfl : c = 4 + bR n K B ((k : Int) + 1) := by omega
      unfold lpX8_reckons_108
      exact ⟨fun _ => hC _ N fN tN, fun q => absurd ((cd_lt (by omega) (by omega)).2 (by omega)) q⟩
    | succ e ih =>
      intro c hc hc3 N fN tN
      have ic : ir n K B ((k : Int) + 1) c := ⟨by omega, by omega⟩
      have a6 := ir_le hg ia
      have b6 := ir_le hg ib
      have c6 := ir_le hg ic
      unfold lpX8_reckons_108
      rw [cd_neg rd]
      refine ⟨fun q => absurd ((cd_lt (by omega) (by omega)).1 q) (by omega), fun _ => p8_leastR (sr_fr hs fN (by omega)) hg hk hw (tN.1 (k + 1) (by omega) (by omega)) a6 ib ic (fun x => p8_place ⟨vp_of (by omega) (by omega), fun M56 e56 x57 e57 => ?_⟩)⟩
      rw [e57, cd_s]
      refine ih (c + 1) (by omega) (by omega) M56 (fr_up fN e56) ?_
      rw [e56, va_up_self, cl_of (by omega)]
      exact tI_s hg tN a6 b6 c6 (by rw [show n - 1 - k = j + 1 by omega])
  have key2 : ∀ a, ir n K B ((k : Int) - 1) a → ∀ C : Int32 → zM → Prop, (∀ x N, fr M N (o + 12) → tI (N (o + 12)) n K V B 1000000000 (gR w) k a (4 + bR n K B (k : Int)) (3 - bR n K B ((k : Int) + 1)) → C x N) → ∀ e b, b + e = 4 + bR n K B (k : Int) → 3 ≤ b + bR n K B (k : Int) → ∀ N, fr M N (o + 12) → tI (N (o + 12)) n K V B 1000000000 (gR w) k a b (3 - bR n K B ((k : Int) + 1)) → lpX8_reckons_96 o (nI w) (nI k) (nI (bR n K B (k : Int))) (nI (bR n K B ((k : Int) + 1))) (nI (bR n K B ((k : Int) + 2))) (cd a) C (e + 1) (cd b) N := by
    intro a ia C hC e
    induction e with
    | zero =>
      intro b hb hb3 N fN tN
      obtain rfl : b = 4 + bR n K B (k : Int) := by omega
      unfold lpX8_reckons_96
      exact ⟨fun _ => hC _ N fN tN, fun q => absurd ((cd_lt (by omega) (by omega)).2 (by omega)) q⟩
    | succ e ih =>
      intro b hb hb3 N fN tN
      have ib : ir n K B (k : Int) b := ⟨by omega, by omega⟩
      unfold lpX8_reckons_96
      rw [cd_neg rc]
      refine ⟨fun q => absurd ((cd_lt (by omega) (by omega)).1 q) (by omega), fun _ => ⟨_, key3 a b ia ib _ (fun x N2 fN2 tN2 x18 e18 => ?_) (2 * bR n K B ((k : Int) + 1) + 1) _ (by omega) (by omega) N fN tN⟩⟩
      rw [e18, cd_s]
      exact ih (b + 1) (by omega) (by omega) N2 fN2 (tI_b tN2)
  have key1 : ∀ e a, a + e = 4 + bR n K B ((k : Int) - 1) → 3 ≤ a + bR n K B ((k : Int) - 1) → ∀ N, fr M N (o + 12) → tI (N (o + 12)) n K V B 1000000000 (gR w) k a (3 - bR n K B (k : Int)) (3 - bR n K B ((k : Int) + 1)) → lpX8_reckons_84 o (nI w) (nI k) (nI (bR n K B ((k : Int) - 1))) (nI (bR n K B (k : Int))) (nI (bR n K B ((k : Int) + 1))) (nI (bR n K B ((k : Int) + 2))) C (e + 1) (cd a) N := by
    intro e
    induction e with
    | zero =>
      intro a ha ha3 N fN tN
      obtain rfl : a = 4 + bR n K B ((k : Int) - 1) := by omega
      unfold lpX8_reckons_84
      exact ⟨fun _ => h _ N fN (tI_n tN), fun q => absurd ((cd_lt (by omega) (by omega)).2 (by omega)) q⟩
    | succ e ih =>
      intro a ha ha3 N fN tN
      have ia : ir n K B ((k : Int) - 1) a := ⟨by omega, by omega⟩
      unfold lpX8_reckons_84
      rw [cd_neg rb]
      refine ⟨fun q => absurd ((cd_lt (by omega) (by omega)).1 q) (by omega), fun _ => ⟨_, key2 a ia _ (fun x N2 fN2 tN2 x13 e13 => ?_) (2 * bR n K B (k : Int) + 1) _ (by omega) (by omega) N fN tN⟩⟩
      rw [e13, cd_s]
      exact ih (a + 1) (by omega) (by omega) N2 fN2 (tI_a tN2)
  exact ⟨_, key1 (2 * bR n K B ((k : Int) - 1) + 1) _ (by omega) (by omega) M (fun _ _ => rfl) (tI_0 ht)⟩
theorem hR_lt {b c x : Nat} (hx : x ≤ 1000000000) (hb : b ≤ 6) (hc : c ≤ 6) : hR x b c < 2 ^ 31 := by
  have h1 := dv_le hb
  have h2 := dv_le hc
  unfold hR
  split <;> omega
theorem p8_reckons {w : Nat} {Q : Int32 → zM → Prop} (hs : sr M o n K V B) (hg : rg n V B) (hw : w ≤ 5000) (h : ∀ N, fr M N (o + 12) → (∀ k, k < n → tR (N (o + 12)) n K V B 1000000000 (gR w) k) → Q (nI (bM n K V B w)) N) : wX8_reckons M o (nI w) Q := by
  have h12 := hg.2.1
  have h3 := hg.1
  have rb0 := bR_le (K := K) hg 0
  have rc0 := bR_le (K := K) hg 1
  have top : ∀ N, fr M N (o + 12) → (∀ k, k < n → tR (N (o + 12)) n K V B 1000000000 (gR w) k) → ∃ fu, lpX8_reckons_232 o N (nI (bR n K B 0)) (nI (bR n K B 1)) Q fu (1000000000 : Int32) (cd (3 - bR n K B 0)) := by
    intro N fN tN
    have hQ := h N fN tN
    unfold bM at hQ
    have key2 : ∀ p, p < 2 * bR n K B 0 + 1 → ∀ C : Int32 → Int32 → Prop, (∀ x, C (nI (mn (mn2 1000000000 (fun b c => hR (bT n K V B 1000000000 (gR w) (n - 1) 3 b c) b c) (3 - bR n K B 0) (3 - bR n K B 1) (2 * bR n K B 1 + 1) p) ((fun b c => hR (bT n K V B 1000000000 (gR w) (n - 1) 3 b c) b c) (3 - bR n K B 0 + p)) (3 - bR n K B 1) (2 * bR n K B 1 + 1))) x) → ∀ e i, i + e = 2 * bR n K B 1 + 1 → lpX8_reckons_244 o N (nI (bR n K B 1)) (cd (3 - bR n K B 0 + p)) C (e + 1) (nI (mn (mn2 1000000000 (fun b c => hR (bT n K V B 1000000000 (gR w) (n - 1) 3 b c) b c) (3 - bR n K B 0) (3 - bR n K B 1) (2 * bR n K B 1 + 1) p) ((fun b c => hR (bT n K V B 1000000000 (gR w) (n - 1) 3 b c) b c) (3 - bR n K B 0 + p)) (3 - bR n K B 1) i)) (cd (3 - bR n K B 1 + i)) := by
      intro p hp C hC2 e
      induction e with
      | zero =>
        intro i hi
        obtain rfl : i = 2 * bR n K B 1 + 1 := by omega
        unfold lpX8_reckons_244
        exact ⟨fun _ => hC2 _, fun q => absurd ((cd_lt (by omega) (by omega)).2 (by omega)) q⟩
      | succ e ih =>
        intro i hi
        have ib := ir_lo (K := K) hg (i := 0) hp
        have ic := ir_lo (K := K) hg (i := 1) (show i < 2 * bR n K B 1 + 1 by omega)
        have b6 := ir_le hg ib
        have c6 := ir_le hg ic
        have m1 := mn2_le (acc := 1000000000) (f := fun b c => hR (bT n K V B 1000000000 (gR w) (n - 1) 3 b c) b c) (lb := 3 - bR n K B 0) (lc := 3 - bR n K B 1) (cc := 2 * bR n K B 1 + 1) p
        have m2 := mn_le (acc := mn2 1000000000 (fun b c => hR (bT n K V B 1000000000 (gR w) (n - 1) 3 b c) b c) (3 - bR n K B 0) (3 - bR n K B 1) (2 * bR n K B 1 + 1) p) (f := (fun b c => hR (bT n K V B 1000000000 (gR w) (n - 1) 3 b c) b c) (3 - bR n K B 0 + p)) (lo := 3 - bR n K B 1) i
        have tl := bT_le (n := n) (K := K) (V := V) (B := B) (F := 1000000000) (g := gR w) (n - 1) 3 (3 - bR n K B 0 + p) (3 - bR n K B 1 + i)
        have m3 := hR_lt tl b6 c6
        have hi2 := ih (i + 1) (by omega)
        rw [mn] at hi2
        have jn : ∀ x26, x26 = nI (hR (bT n K V B 1000000000 (gR w) (n - 1) 3 (3 - bR n K B 0 + p) (3 - bR n K B 1 + i)) (3 - bR n K B 0 + p) (3 - bR n K B 1 + i)) → jnX8_reckons_293 (nI (mn (mn2 1000000000 (fun b c => hR (bT n K V B 1000000000 (gR w) (n - 1) 3 b c) b c) (3 - bR n K B 0) (3 - bR n K B 1) (2 * bR n K B 1 + 1) p) ((fun b c => hR (bT n K V B 1000000000 (gR w) (n - 1) 3 b c) b c) (3 - bR n K B 0 + p)) (3 - bR n K B 1) i)) (cd (3 - bR n K B 1 + i)) (lpX8_reckons_244 o N (nI (bR n K B 1)) (cd (3 - bR n K B 0 + p)) C (e + 1)) x26 := by
          intro x26 e26
          unfold jnX8_reckons_293
          rw [e26]
          refine ⟨fun q x27 e27 => ?_, fun q x28 e28 => ?_⟩
          · rw [nI_leI (by omega) m3] at q
            rw [if_pos q] at hi2
            rw [e27, cd_s]; exact hi2
          · rw [nI_leI (by omega) m3] at q
            rw [if_neg q] at hi2
            rw [e28, cd_s]; exact hi2
        unfold lpX8_reckons_244
        refine ⟨fun q => absurd ((cd_lt (by omega) (by omega)).1 q) (by omega), fun _ => p8_place0 ⟨vp_of (by omega) (by omega), ?_⟩⟩
        have et : N (o + 12) (343 * 0 + 49 * 3 + 7 * (3 - bR n K B 0 + p) + (3 - bR n K B 1 + i)) = nI (bT n K V B 1000000000 (gR w) (n - 1) 3 (3 - bR n K B 0 + p) (3 - bR n K B 1 + i)) := tN 0 (by omega) 3 _ _ (ir_m1 n K B) ib ic
        rw [cl_of (by omega), et]
        refine ⟨fun q => p8_size (p8_size (fun x31 e31 => jn x31 ?_)), fun q => jn _ ?_⟩
        · have q : ¬ nI (bT n K V B 1000000000 (gR w) (n - 1) 3 (3 - bR n K B 0 + p) (3 - bR n K B 1 + i)) = nI 1000000000 := q
          rw [e31, cd_abs b6, cd_abs c6, nI_add, nI_add]
          unfold hR
          rw [if_neg (fun y => q (congrArg nI y))]
        · have q : nI (bT n K V B 1000000000 (gR w) (n - 1) 3 (3 - bR n K B 0 + p) (3 - bR n K B 1 + i)) = nI 1000000000 := q
          rw [nI_eq (by omega) (by omega)] at q
          unfold hR
          rw [if_pos q]; rfl
    have key1 : ∀ e p, p + e = 2 * bR n K B 0 + 1 → lpX8_reckons_232 o N (nI (bR n K B 0)) (nI (bR n K B 1)) Q (e + 1) (nI (mn2 1000000000 (fun b c => hR (bT n K V B 1000000000 (gR w) (n - 1) 3 b c) b c) (3 - bR n K B 0) (3 - bR n K B 1) (2 * bR n K B 1 + 1) p)) (cd (3 - bR n K B 0 + p)) := by
      intro e
      induction e with
      | zero =>
        intro p hp
        obtain rfl : p = 2 * bR n K B 0 + 1 := by omega
        unfold lpX8_reckons_232
        exact ⟨fun _ => hQ, fun q => absurd ((cd_lt (by omega) (by omega)).2 (by omega)) q⟩
      | succ e ih =>
        intro p hp
        unfold lpX8_reckons_232
        rw [cd_neg rc0]
        refine ⟨fun q => absurd ((cd_lt (by omega) (by omega)).1 q) (by omega), fun _ => ⟨_, key2 p (by omega) _ (fun x x11 e11 => ?_) (2 * bR n K B 1 + 1) 0 (by omega)⟩⟩
        rw [e11, cd_s]
        exact ih (p + 1) (by omega)
    exact ⟨_, key1 (2 * bR n K B 0 + 1) 0 (by omega)⟩
  have lev : ∀ C : Int32 → zM → Prop, (∀ x N, fr M N (o + 12) → (∀ k, k < n → tR (N (o + 12)) n K V B 1000000000 (gR w) k) → C x N) → ∀ m, m + 1 ≤ n → ∀ N, fr M N (o + 12) → (∀ k, m ≤ k → k < n → tR (N (o + 12)) n K V B 1000000000 (gR w) k) → lpX8_reckons_41 o (nI w) C (m + 1) (nI m - 1) N := by
    intro C hC m
    induction m with
    | zero =>
      intro _ N fN tN
      unfold lpX8_reckons_41
      exact ⟨fun _ => hC _ N fN (fun k hk => tN k (by omega) hk), fun q => absurd (by decide) q⟩
    | succ m ih =>
      intro hm N fN tN
      have hsN := sr_fr hs fN (by omega)
      have ra := bR_le (K := K) hg ((m : Int) - 1)
      unfold lpX8_reckons_41
      rw [nI_pred]
      refine ⟨fun q => absurd q (nI_pos (by omega)), fun _ => p8_reachAt hg hsN.1 hsN.2.1 hsN.2.2.2 (p8_reachAt hg hsN.1 hsN.2.1 hsN.2.2.2 (p8_reachAt hg hsN.1 hsN.2.1 hsN.2.2.2 (p8_reachAt hg hsN.1 hsN.2.1 hsN.2.2.2 ?_)))⟩
      rw [t_m1 (by omega), pn_n (by omega), t_p1 (by omega), t_p2 (by omega), cd_neg ra]
      refine p8_level (j := n - 2 - m) hsN hg (by omega) hw (fun k' h1 h2 => tN k' (by omega) h2) (fun x N2 fN2 tN2 x13 e13 => ?_)
      rw [e13, show nI m + -1 = nI m - 1 from (Int32.sub_eq_add_neg _ _).symm]
      exact ih (by omega) N2 (fun x hx => by rw [fN2 x hx, fN x hx]) tN2
  have zer : ∀ C : Int32 → zM → Prop, (∀ x N, fr M N (o + 12) → (∀ i, i < 343 → N (o + 12) (343 * (n - 1) + i) = 0) → C x N) → ∀ e i, i + e = 343 → ∀ N, fr M N (o + 12) → (∀ i', i' < i → N (o + 12) (343 * (n - 1) + i') = 0) → lpX8_reckons_9 M o C (e + 1) (nI i) N := by
    intro C hC e
    induction e with
    | zero =>
      intro i hi N fN zN
      obtain rfl : i = 343 := by omega
      unfold lpX8_reckons_9
      exact ⟨fun _ => hC _ N fN zN, fun q => absurd (show (343 : Int32) ≤ nI 343 by decide) q⟩
    | succ e ih =>
      intro i hi N fN zN
      unfold lpX8_reckons_9
      refine ⟨fun q => absurd q (nI_ge (a := i) (b := 343) (by omega) (by decide)), fun _ x61 e61 => ?_⟩
      have e61 : x61 = nI (n - 1) := by rw [e61]; show M (o + 6) 0 - 1 = _; rw [hs.1, nm1 (by omega)]
      rw [e61, show (343 : Int32) = nI 343 from rfl, pk_mul, nI_add, cl_of (by omega)]
      refine ⟨vp_of (by omega) (by omega), fun M15 e15 x16 e16 => ?_⟩
      rw [e16, nI_1]
      refine ih (i + 1) (by omega) M15 (fr_up fN e15) (fun i' hi' => ?_)
      rw [e15, va_up_self]
      by_cases q : i' = i
      · subst q; rw [pk_us]
      · rw [pk_un (by omega)]; exact zN i' (by omega)
  unfold wX8_reckons
  refine ⟨_, zer _ (fun x N fN zN x8 e8 => ⟨n - 1 + 1, ?_⟩) 343 0 (by omega) M (fun _ _ => rfl) (fun i' hi' => by omega)⟩
  have e8 : x8 = nI (n - 1) - 1 := by
    rw [e8]
    show M (o + 6) 0 - 2 = _
    rw [hs.1, show (2 : Int32) = nI 2 from rfl, show (1 : Int32) = nI 1 from rfl, pk_sub (by omega), pk_sub (by omega)]; rfl
  rw [e8]
  refine lev _ (fun x N2 fN2 tN2 => ?_) (n - 1) (by omega) N fN (fun k h1 h2 => ?_)
  · have hs2 := sr_fr hs fN2 (by omega)
    refine p8_reachAt hg hs2.1 hs2.2.1 hs2.2.2.2 (p8_reachAt hg hs2.1 hs2.2.1 hs2.2.2.2 ?_)
    rw [t0, t1, cd_neg rb0]
    exact top N2 fN2 tN2
  · obtain rfl : k = n - 1 := by omega
    intro a b c ia ib ic
    have l1 := ir_le hg ia
    have l2 := ir_le hg ib
    have l3 := ir_le hg ic
    rw [show 343 * (n - 1) + 49 * a + 7 * b + c = 343 * (n - 1) + (49 * a + 7 * b + c) by omega, zN _ (by omega), show n - 1 - (n - 1) = 0 by omega]
    rfl
end RA
