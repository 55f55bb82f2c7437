/-! PURE: best(), the least of all and the slews that come to it -/
def ir (n : Nat) (K B : Nat → Int32) (i : Int) (a : Nat) : Prop := 3 ≤ a + bR n K B i ∧ a ≤ 3 + bR n K B i
theorem ir_le {n : Nat} {K V B : Nat → Int32} (h : rg n V B) {i : Int} {a : Nat} (ha : ir n K B i a) : a ≤ 6 := by
  have := bR_le (K := K) h i
  unfold ir at ha
  omega
theorem ir_lo {n : Nat} {K V B : Nat → Int32} (h : rg n V B) {i : Int} {p : Nat} (hp : p < 2 * bR n K B i + 1) : ir n K B i (3 - bR n K B i + p) := by
  have := bR_le (K := K) h i
  unfold ir
  omega
theorem ir_of {n : Nat} {K V B : Nat → Int32} (h : rg n V B) {i : Int} {a : Nat} (ha : ir n K B i a) : ∃ p, p < 2 * bR n K B i + 1 ∧ 3 - bR n K B i + p = a := by
  have := bR_le (K := K) h i
  unfold ir at ha
  exact ⟨a - (3 - bR n K B i), by omega, by omega⟩
theorem ir_m1 (n : Nat) (K B : Nat → Int32) : ir n K B (-1) 3 := by unfold ir; rw [bR_m1]; omega
def hC (w : Option Nat) (x b c : Nat) : Nat := match w with
  | none => x
  | some _ => x + dv b + dv c
def hR (x b c : Nat) : Nat := if x = 1000000000 then 1000000000 else x + dv b + dv c
/-- the least of all, of the class and of the reference -/
def bC (n : Nat) (K V B : Nat → Int32) (w : Option Nat) : Nat := mn2 268435456 (fun b c => hC w (bT n K V B 268435456 (gC w) (n - 1) 3 b c) b c) (3 - bR n K B 0) (3 - bR n K B 1) (2 * bR n K B 1 + 1) (2 * bR n K B 0 + 1)
def bM (n : Nat) (K V B : Nat → Int32) (w : Nat) : Nat := mn2 1000000000 (fun b c => hR (bT n K V B 1000000000 (gR w) (n - 1) 3 b c) b c) (3 - bR n K B 0) (3 - bR n K B 1) (2 * bR n K B 1 + 1) (2 * bR n K B 0 + 1)
def bA (n : Nat) (K V B : Nat → Int32) : Nat := bC n K V B none
def bL (n : Nat) (K V B : Nat → Int32) : Nat := bC n K V B (some (bA n K V B))
theorem bA_le {n : Nat} {K V B : Nat → Int32} (h : rg n V B) : bA n K V B ≤ 2022 := by
  have h3 := h.1
  have : bA n K V B < 2023 := by
    unfold bA bC
    rw [mn2_lt]
    refine Or.inr ⟨0, 0, by omega, by omega, ?_⟩
    exact bT_none h _ _ _ _ (by omega) (by omega) (lo_le h (by omega)) (lo_le h (by omega))
  omega
theorem rl_up {j i x y : Nat} (hi : j ≤ i) (h : rl j x y) : rl i x y := h.elim Or.inl (fun ⟨u, m, q1, q2, q3, q4⟩ => Or.inr ⟨u, m, q1, q2, by omega, by omega⟩)
theorem rlw_up {j i x y : Nat} (hi : j ≤ i) (h : rlw j x y) : rlw i x y := h.elim Or.inl (fun ⟨u, m, q1, q2, q3, q4⟩ => Or.inr ⟨u, m, q1, q2, by omega, by omega⟩)
/-- of a pair of first slews, the class's cost and the reference's -/
theorem x_rl {n : Nat} {K V B : Nat → Int32} (h : rg n V B) (w : Nat) {b c : Nat} (hb : b ≤ 6) (hc : c ≤ 6) : rlw 14 (hC (some w) (bT n K V B 268435456 (gC (some w)) (n - 1) 3 b c) b c) (hR (bT n K V B 1000000000 (gR w) (n - 1) 3 b c) b c) := by
  have h3 := h.1
  have h12 := h.2.1
  have q := bT_rl (K := K) h w (n - 1) 3 b c (by omega) (by omega) hb hc
  have e1 := dv_le hb
  have e2 := dv_le hc
  show rlw 14 (_ + dv b + dv c) _
  unfold hR
  rcases q with ⟨q1, q2⟩ | ⟨u, m, q1, q2, q3, q4⟩
  · rw [if_pos q2]; exact Or.inl ⟨by omega, rfl⟩
  · rw [if_neg (by omega)]
    refine Or.inr ⟨u, m + dv b + dv c, by omega, by omega, ?_, by omega⟩
    omega
theorem bL_rl {n : Nat} {K V B : Nat → Int32} (h : rg n V B) (w : Nat) : rl 14 (bC n K V B (some w)) (bM n K V B w) := by
  unfold bC bM
  exact mn2_rl (Nat.le_refl _) (Or.inl ⟨rfl, rfl⟩) _ (fun p q hp hq => x_rl h w (lo_le h hp) (lo_le h hq))
theorem bM_feas {n : Nat} {K V B : Nat → Int32} (h : rg n V B) {w : Nat} (hw : w ≤ 5000) : bM n K V B w < 1000000000 ↔ bA n K V B ≤ w := by
  have h3 := h.1
  have h12 := h.2.1
  have key : ∀ b c, b ≤ 6 → c ≤ 6 → (hR (bT n K V B 1000000000 (gR w) (n - 1) 3 b c) b c < 1000000000 ↔ hC none (bT n K V B 268435456 (gC none) (n - 1) 3 b c) b c < w + 1) := by
    intro b c hb hc
    have i1 := bT_feas (K := K) h hw (n - 1) 3 b c (by omega) (by omega) hb hc
    have i2 := bT_rl (K := K) h w (n - 1) 3 b c (by omega) (by omega) hb hc
    have e1 := dv_le hb
    have e2 := dv_le hc
    show _ ↔ bT n K V B 268435456 (gC none) (n - 1) 3 b c < w + 1
    rw [← i1]
    unfold hR
    rcases i2 with ⟨q1, q2⟩ | ⟨u, m, q1, q2, q3, q4⟩
    · rw [if_pos q2]; omega
    · rw [if_neg (by omega)]; omega
  have e : bM n K V B w < 1000000000 ↔ bA n K V B < w + 1 := by
    unfold bM bA bC
    rw [mn2_lt, mn2_lt]
    constructor
    · rintro (q | ⟨p, q, hp, hq, z⟩)
      · omega
      · exact Or.inr ⟨p, q, hp, hq, (key _ _ (lo_le h hp) (lo_le h hq)).1 z⟩
    · rintro (q | ⟨p, q, hp, hq, z⟩)
      · omega
      · exact Or.inr ⟨p, q, hp, hq, (key _ _ (lo_le h hp) (lo_le h hq)).2 z⟩
  rw [e]; omega
theorem bL_lt {n : Nat} {K V B : Nat → Int32} (h : rg n V B) : bL n K V B < 268435456 := by
  have h1 := bL_rl (K := K) h (bA n K V B)
  have h2 := bA_le (K := K) h
  have h3 := (bM_feas (K := K) h (w := bA n K V B) (by omega)).2 (Nat.le_refl _)
  unfold bL
  rcases h1 with ⟨q1, q2⟩ | ⟨u, m, q1, q2, q3, q4⟩ <;> omega
/-- the table of the class, its worst kept to the least -/
def tC (n : Nat) (K V B : Nat → Int32) (j a b c : Nat) : Nat := bT n K V B 268435456 (gC (some (bA n K V B))) j a b c
def cC (n : Nat) (K V B : Nat → Int32) (k a b c d : Nat) : Nat := gC (some (bA n K V B)) (bS K V k a b c d) d (tC n K V B (n - 2 - k) b c d)
def xC (n : Nat) (K V B : Nat → Int32) (b c : Nat) : Nat := hC (some (bA n K V B)) (tC n K V B (n - 1) 3 b c) b c
def ah (s : Nat → Nat) (k : Nat) : Nat := if k = 0 then 3 else s (k - 1)
/-- the first slews of the best, by s -/
def sp0 (n : Nat) (K V B : Nat → Int32) (s : Nat → Nat) : Prop := ir n K B 0 (s 0) ∧ ir n K B 1 (s 1) ∧ xC n K V B (s 0) (s 1) = bL n K V B ∧ ∀ b c, ir n K B 0 b → ir n K B 1 c → (b < s 0 ∨ (b = s 0 ∧ c < s 1)) → ¬ xC n K V B b c = bL n K V B
def sp1 (n : Nat) (K V B : Nat → Int32) (s : Nat → Nat) (k : Nat) : Prop := tC n K V B (n - 1 - k) (ah s k) (s k) (s (k + 1)) < 268435456
def sp2 (n : Nat) (K V B : Nat → Int32) (s : Nat → Nat) (k : Nat) : Prop := ir n K B ((k : Int) + 2) (s (k + 2)) ∧ cC n K V B k (ah s k) (s k) (s (k + 1)) (s (k + 2)) = tC n K V B (n - 1 - k) (ah s k) (s k) (s (k + 1)) ∧ ∀ d, ir n K B ((k : Int) + 2) d → d < s (k + 2) → ¬ cC n K V B k (ah s k) (s k) (s (k + 1)) d = tC n K V B (n - 1 - k) (ah s k) (s k) (s (k + 1))
theorem sp_first {n : Nat} {K V B : Nat → Int32} (h : rg n V B) : ∃ s, sp0 n K V B s ∧ sp1 n K V B s 0 := by
  have hl := bL_lt (K := K) h
  have hx : ∃ b c, ir n K B 0 b ∧ ir n K B 1 c ∧ xC n K V B b c = bL n K V B := by
    rcases mn2_at (acc := 268435456) (f := fun b c => xC n K V B b c) (lb := 3 - bR n K B 0) (lc := 3 - bR n K B 1) (cc := 2 * bR n K B 1 + 1) (2 * bR n K B 0 + 1) with q | ⟨p, q, hp, hq, z⟩
    · exfalso
      have : bL n K V B = 268435456 := q
      omega
    · exact ⟨_, _, ir_lo h hp, ir_lo h hq, z⟩
  obtain ⟨b, ⟨c, hb, hc, hbc⟩, hbm⟩ := pk_least (fun b => ∃ c, ir n K B 0 b ∧ ir n K B 1 c ∧ xC n K V B b c = bL n K V B) hx
  obtain ⟨c, ⟨hb, hc, hbc⟩, hcm⟩ := pk_least (fun c => ir n K B 0 b ∧ ir n K B 1 c ∧ xC n K V B b c = bL n K V B) ⟨c, hb, hc, hbc⟩
  refine ⟨fun k => if k = 0 then b else c, ⟨hb, hc, hbc, fun b' c' hb' hc' hl' q => ?_⟩, ?_⟩
  · rcases hl' with z | ⟨z, z2⟩
    · exact hbm b' z ⟨c', hb', hc', q⟩
    · have z : b' = b := z
      have z2 : c' < c := z2
      subst z
      exact hcm c' z2 ⟨hb', hc', q⟩
  · have e : tC n K V B (n - 1) 3 b c + dv b + dv c = bL n K V B := hbc
    show tC n K V B (n - 1) 3 b c < 268435456
    omega
theorem gC_lt {w s d r : Nat} (h : gC (some w) s d r < 268435456) : r < 268435456 := by
  have h : (if w < s then 268435456 else if r < 268435456 then 64 * s + dv d + r else 268435456) < 268435456 := h
  by_cases c : r < 268435456
  · exact c
  · rw [if_neg c] at h
    revert h; split <;> omega
/-- the slews of the best -/
def bSl (n : Nat) (K V B : Nat → Int32) (s : Nat → Nat) : Prop := sp0 n K V B s ∧ ∀ k, k + 2 < n → sp1 n K V B s k ∧ sp2 n K V B s k
theorem sp_all {n : Nat} {K V B : Nat → Int32} (h : rg n V B) : ∀ m, m + 2 ≤ n → ∃ s, sp0 n K V B s ∧ sp1 n K V B s m ∧ ∀ k, k < m → sp1 n K V B s k ∧ sp2 n K V B s k := by
  intro m
  induction m with
  | zero =>
    intro _
    obtain ⟨s, h0, h1⟩ := sp_first (K := K) h
    exact ⟨s, h0, h1, fun k hk => by omega⟩
  | succ m ih =>
    intro hm
    obtain ⟨s, h0, h1, h2⟩ := ih (by omega)
    have ex : ∃ d, ir n K B ((m : Int) + 2) d ∧ cC n K V B m (ah s m) (s m) (s (m + 1)) d = tC n K V B (n - 1 - m) (ah s m) (s m) (s (m + 1)) := by
      obtain ⟨j, hj⟩ : ∃ j, n - 1 - m = j + 1 := ⟨n - 2 - m, by omega⟩
      have hjm : n - 2 - m = j := by omega
      have hjk : n - 2 - j = m := by omega
      have hi : (n : Int) - j = (m : Int) + 2 := by omega
      have h1' : tC n K V B (n - 1 - m) (ah s m) (s m) (s (m + 1)) < 268435456 := h1
      unfold cC
      rw [hjm]
      rw [hj] at h1' ⊢
      unfold tC at h1' ⊢
      rw [bT, hjk, hi] at h1' ⊢
      rcases mn_at (acc := 268435456) (f := fun d => gC (some (bA n K V B)) (bS K V m (ah s m) (s m) (s (m + 1)) d) d (bT n K V B 268435456 (gC (some (bA n K V B))) j (s m) (s (m + 1)) d)) (lo := 3 - bR n K B ((m : Int) + 2)) (2 * bR n K B ((m : Int) + 2) + 1) with q | ⟨p, hp, q⟩
      · omega
      · exact ⟨_, ir_lo h hp, q⟩
    obtain ⟨d, ⟨hd, hde⟩, hdm⟩ := pk_least _ ex
    have e1 : ∀ k, k ≤ m + 1 → (fun i => if i = m + 2 then d else s i) k = s k := fun k hk => if_neg (by omega)
    have ea : ∀ k, k ≤ m → ah (fun i => if i = m + 2 then d else s i) k = ah s k := by
      intro k hk
      unfold ah
      by_cases c : k = 0
      · rw [if_pos c, if_pos c]
      · rw [if_neg c, if_neg c]; exact e1 (k - 1) (by omega)
    have e2 : (fun i => if i = m + 2 then d else s i) (m + 2) = d := if_pos rfl
    refine ⟨fun i => if i = m + 2 then d else s i, ?_, ?_, fun k hk => ?_⟩
    · unfold sp0
      rw [e1 0 (by omega), e1 1 (by omega)]
      exact h0
    · unfold sp1
      rw [show ah (fun i => if i = m + 2 then d else s i) (m + 1) = s m by unfold ah; rw [if_neg (by omega)]; exact e1 m (by omega), e1 (m + 1) (by omega), show m + 1 + 1 = m + 2 from rfl, e2, show n - 1 - (m + 1) = n - 2 - m by omega]
      have h1' : tC n K V B (n - 1 - m) (ah s m) (s m) (s (m + 1)) < 268435456 := h1
      rw [← hde] at h1'
      exact gC_lt h1'
    · by_cases c : k = m
      · subst c
        refine ⟨?_, ?_⟩
        · unfold sp1
          rw [ea k (by omega), e1 k (by omega), e1 (k + 1) (by omega)]
          exact h1
        · unfold sp2
          rw [ea k (by omega), e1 k (by omega), e1 (k + 1) (by omega), e2]
          exact ⟨hd, hde, fun d' i' l' q => hdm d' l' ⟨i', q⟩⟩
      · obtain ⟨q1, q2⟩ := h2 k (by omega)
        refine ⟨?_, ?_⟩
        · unfold sp1
          rw [ea k (by omega), e1 k (by omega), e1 (k + 1) (by omega)]
          exact q1
        · unfold sp2
          rw [ea k (by omega), e1 k (by omega), e1 (k + 1) (by omega), e1 (k + 2) (by omega)]
          exact q2
theorem bSl_ex {n : Nat} {K V B : Nat → Int32} (h : rg n V B) : ∃ s, bSl n K V B s := by
  have h3 := h.1
  obtain ⟨s, h0, _, h2⟩ := sp_all (K := K) h (n - 2) (by omega)
  exact ⟨s, h0, fun k hk => h2 k (by omega)⟩
theorem bSl_ir {n : Nat} {K V B : Nat → Int32} {s : Nat → Nat} (h : bSl n K V B s) {k : Nat} (hk : k < n) : ir n K B (k : Int) (s k) := by
  match k, hk with
  | 0, _ => exact h.1.1
  | 1, _ => exact h.1.2.1
  | k + 2, hk => exact (h.2 k hk).2.1
theorem ah_ir {n : Nat} {K V B : Nat → Int32} {s : Nat → Nat} (h : bSl n K V B s) {k : Nat} (hk : k < n) : ir n K B ((k : Int) - 1) (ah s k) := by
  unfold ah
  by_cases c : k = 0
  · rw [if_pos c, c]; exact ir_m1 n K B
  · rw [if_neg c]
    have := bSl_ir h (show k - 1 < n by omega)
    rwa [show ((k - 1 : Nat) : Int) = (k : Int) - 1 by omega] at this
