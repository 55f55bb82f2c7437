/-! PURE: sums along a rail -/
def fAcc (g : Int32 → Int32 → Int32) (f : Nat → Int32) : Nat → Int32
  | 0 => 0
  | i + 1 => g (fAcc g f i) (f i)
theorem fAcc_of {g : Int32 → Int32 → Int32} {f f' : Nat → Int32} {n : Nat} (h : ∀ k, k < n → f k = f' k) : fAcc g f n = fAcc g f' n := by
  induction n with
  | zero => rfl
  | succ n ih => unfold fAcc; rw [ih (fun k hk => h k (by omega)), h n (by omega)]
def fWorst (n : Nat) (K V S : Nat → Int32) : Int32 := fAcc (fun a b => zmax a b) (fStep n K V S) (n - 1)
def fUneven (n : Nat) (K V S : Nat → Int32) : Int32 := fAcc (fun a b => a + b) (fStep n K V S) (n - 1)
def fAllNow (n : Nat) (V S : Nat → Int32) : Int32 := fAcc (fun a b => a + b) (fNow n V S) n
def fAllSl (n : Nat) (S : Nat → Int32) : Int32 := fAcc (fun a b => a + b) S n
def fMoved (n : Nat) (S : Nat → Int32) : Int32 := fAcc (fun a b => a + b) (fun k => zabs (S k)) n
theorem p2_worst {M : zM} {o n : Nat} {Q : Int32 → Prop} (hn : M o 0 = nI n) (h12 : n ≤ 12) (h1 : 1 ≤ n) (h : Q (fWorst n (M (o + 1)) (M (o + 2)) (M (o + 4)))) : wX2_worst M o Q := by
  have key : ∀ d i, i + d = n - 1 → lpX2_worst_4 M o Q (d + 1) (fAcc (fun a b => zmax a b) (fStep n (M (o + 1)) (M (o + 2)) (M (o + 4))) i) (nI i) := by
    intro d
    induction d with
    | zero =>
      intro i hi
      obtain rfl : i = n - 1 := by omega
      unfold lpX2_worst_4
      rw [hn]
      exact ⟨fun _ => h, fun c => absurd (by rw [pn_le, t_m1 (by omega), pn_n (by omega)]; omega) c⟩
    | succ d ih =>
      intro i hi
      unfold lpX2_worst_4
      rw [hn]
      refine ⟨fun c => absurd c (by rw [pn_le, t_m1 (by omega), pn_n (by omega)]; omega), fun _ => p2_step hn h12 (by omega) ?_⟩
      intro x6 e6
      rw [e6, nI_1]
      exact ih (i + 1) (by omega)
  exact ⟨n - 1 + 1, key (n - 1) 0 (by omega)⟩
theorem p8_worst {M : zM} {o n n0 : Nat} {Q : Int32 → Prop} (h0 : 50 ≤ n0) (h9 : n0 ≤ 10000) (hn : M o 0 = nI n) (h12 : n ≤ 12) (h1 : 1 ≤ n) (h : Q (fWorst n (rK (M o)) (rV (M o)) (rS (M o)))) : wX8_worst M o n0 Q := by
  have hn' : M o (0 : Int32).toNatClampNeg = nI n := hn
  have key : ∀ d i, i + d = n - 1 → lpX8_worst_4 M o n0 Q (d + 1) (fAcc (fun a b => zmax a b) (fStep n (rK (M o)) (rV (M o)) (rS (M o))) i) (nI i) := by
    intro d
    induction d with
    | zero =>
      intro i hi
      obtain rfl : i = n - 1 := by omega
      unfold lpX8_worst_4
      rw [hn', nI_1]
      exact ⟨vp_of (n := 0) (by omega) (by omega), fun _ => h, fun c => absurd (nI_le (by omega) (by omega)) c⟩
    | succ d ih =>
      intro i hi
      unfold lpX8_worst_4
      rw [hn', nI_1]
      refine ⟨vp_of (n := 0) (by omega) (by omega), fun c => absurd c (nI_ge (by omega) (by omega)), fun _ => p8_step h0 h9 hn h12 (by omega) ?_⟩
      have hs := ih (i + 1) (by omega)
      refine ⟨fun c x6 e6 => ?_, fun c x6 e6 => ?_⟩
      · rw [e6]
        have : fAcc (fun a b => zmax a b) (fStep n (rK (M o)) (rV (M o)) (rS (M o))) (i + 1) = fAcc (fun a b => zmax a b) (fStep n (rK (M o)) (rV (M o)) (rS (M o))) i := if_neg (by rw [pn_lt]; rw [pn_le] at c; omega)
        rwa [this] at hs
      · rw [e6]
        have : fAcc (fun a b => zmax a b) (fStep n (rK (M o)) (rV (M o)) (rS (M o))) (i + 1) = fStep n (rK (M o)) (rV (M o)) (rS (M o)) i := if_pos (by rw [pn_lt]; rw [pn_le] at c; omega)
        rwa [this] at hs
  exact ⟨n - 1 + 1, key (n - 1) 0 (by omega)⟩
theorem p2_uneven {M : zM} {o n : Nat} {Q : Int32 → Prop} (hn : M o 0 = nI n) (h12 : n ≤ 12) (h1 : 1 ≤ n) (h : Q (fUneven n (M (o + 1)) (M (o + 2)) (M (o + 4)))) : wX2_uneven M o Q := by
  have key : ∀ d i, i + d = n - 1 → lpX2_uneven_4 M o Q (d + 1) (fAcc (fun a b => a + b) (fStep n (M (o + 1)) (M (o + 2)) (M (o + 4))) i) (nI i) := by
    intro d
    induction d with
    | zero =>
      intro i hi
      obtain rfl : i = n - 1 := by omega
      unfold lpX2_uneven_4
      rw [hn]
      exact ⟨fun _ => h, fun c => absurd (by rw [pn_le, t_m1 (by omega), pn_n (by omega)]; omega) c⟩
    | succ d ih =>
      intro i hi
      unfold lpX2_uneven_4
      rw [hn]
      refine ⟨fun c => absurd c (by rw [pn_le, t_m1 (by omega), pn_n (by omega)]; omega), fun _ => p2_step hn h12 (by omega) ?_⟩
      intro x6 e6
      rw [e6, nI_1]
      exact ih (i + 1) (by omega)
  exact ⟨n - 1 + 1, key (n - 1) 0 (by omega)⟩
theorem p8_uneven {M : zM} {o n n0 : Nat} {Q : Int32 → Prop} (h0 : 50 ≤ n0) (h9 : n0 ≤ 10000) (hn : M o 0 = nI n) (h12 : n ≤ 12) (h1 : 1 ≤ n) (h : Q (fUneven n (rK (M o)) (rV (M o)) (rS (M o)))) : wX8_uneven M o n0 Q := by
  have hn' : M o (0 : Int32).toNatClampNeg = nI n := hn
  have key : ∀ d i, i + d = n - 1 → lpX8_uneven_4 M o n0 Q (d + 1) (fAcc (fun a b => a + b) (fStep n (rK (M o)) (rV (M o)) (rS (M o))) i) (nI i) := by
    intro d
    induction d with
    | zero =>
      intro i hi
      obtain rfl : i = n - 1 := by omega
      unfold lpX8_uneven_4
      rw [hn', nI_1]
      exact ⟨vp_of (n := 0) (by omega) (by omega), fun _ => h, fun c => absurd (nI_le (by omega) (by omega)) c⟩
    | succ d ih =>
      intro i hi
      unfold lpX8_uneven_4
      rw [hn', nI_1]
      refine ⟨vp_of (n := 0) (by omega) (by omega), fun c => absurd c (nI_ge (by omega) (by omega)), fun _ => p8_step h0 h9 hn h12 (by omega) ?_⟩
      intro x6 e6
      rw [e6]
      exact ih (i + 1) (by omega)
  exact ⟨n - 1 + 1, key (n - 1) 0 (by omega)⟩
theorem p2_allNow {M : zM} {o n : Nat} {Q : Int32 → Prop} (hn : M o 0 = nI n) (h12 : n ≤ 12) (h : Q (fAllNow n (M (o + 2)) (M (o + 4)))) : wX2_allNow M o Q := by
  have key : ∀ d i, i + d = n → lpX2_allNow_4 M o Q (d + 1) (fAcc (fun a b => a + b) (fNow n (M (o + 2)) (M (o + 4))) i) (nI i) := by
    intro d
    induction d with
    | zero =>
      intro i hi
      obtain rfl : i = n := by omega
      unfold lpX2_allNow_4
      rw [hn]
      exact ⟨fun _ => h, fun c => absurd (nI_le (Nat.le_refl _) (by omega)) c⟩
    | succ d ih =>
      intro i hi
      unfold lpX2_allNow_4
      rw [hn]
      refine ⟨fun c => absurd c (nI_ge (by omega) (by omega)), fun _ => p2_now hn h12 (by omega) ?_⟩
      intro x6 e6
      rw [e6, nI_1]
      exact ih (i + 1) (by omega)
  exact ⟨n + 1, key n 0 (by omega)⟩
theorem p2_allSlews {M : zM} {o n : Nat} {Q : Int32 → Prop} (hn : M o 0 = nI n) (h12 : n ≤ 12) (h : Q (fAllSl n (M (o + 4)))) : wX2_allSlews M o Q := by
  have key : ∀ d i, i + d = n → lpX2_allSlews_4 M o Q (d + 1) (fAcc (fun a b => a + b) (M (o + 4)) i) (nI i) := by
    intro d
    induction d with
    | zero =>
      intro i hi
      obtain rfl : i = n := by omega
      unfold lpX2_allSlews_4
      rw [hn]
      exact ⟨fun _ => h, fun c => absurd (nI_le (Nat.le_refl _) (by omega)) c⟩
    | succ d ih =>
      intro i hi
      unfold lpX2_allSlews_4
      rw [hn]
      refine ⟨fun c => absurd c (nI_ge (by omega) (by omega)), fun _ => ⟨vp_of (by omega) (by omega), ?_⟩⟩
      intro x6 e6
      rw [e6, nI_1, cl_of (by omega)]
      exact ih (i + 1) (by omega)
  exact ⟨n + 1, key n 0 (by omega)⟩
theorem p2_moved {M : zM} {o n : Nat} {Q : Int32 → Prop} (hn : M o 0 = nI n) (h12 : n ≤ 12) (h : Q (fMoved n (M (o + 4)))) : wX2_moved M o Q := by
  have key : ∀ d i, i + d = n → lpX2_moved_4 M o Q (d + 1) (fAcc (fun a b => a + b) (fun k => zabs (M (o + 4) k)) i) (nI i) := by
    intro d
    induction d with
    | zero =>
      intro i hi
      obtain rfl : i = n := by omega
      unfold lpX2_moved_4
      rw [hn]
      exact ⟨fun _ => h, fun c => absurd (nI_le (Nat.le_refl _) (by omega)) c⟩
    | succ d ih =>
      intro i hi
      unfold lpX2_moved_4
      rw [hn]
      refine ⟨fun c => absurd c (nI_ge (by omega) (by omega)), fun _ => ⟨vp_of (by omega) (by omega), ?_⟩⟩
      intro x6 e6
      rw [e6, nI_1, cl_of (by omega)]
      exact ih (i + 1) (by omega)
  exact ⟨n + 1, key n 0 (by omega)⟩
theorem p8_moved {M : zM} {o n n0 : Nat} {Q : Int32 → Prop} (h0 : 50 ≤ n0) (h9 : n0 ≤ 10000) (hn : M o 0 = nI n) (h12 : n ≤ 12) (h : Q (fMoved n (rS (M o)))) : wX8_moved M o n0 Q := by
  have hn' : M o (0 : Int32).toNatClampNeg = nI n := hn
  have key : ∀ d i, i + d = n → lpX8_moved_4 M o n0 Q (d + 1) (fAcc (fun a b => a + b) (fun k => zabs (rS (M o) k)) i) (nI i) := by
    intro d
    induction d with
    | zero =>
      intro i hi
      obtain rfl : i = n := by omega
      unfold lpX8_moved_4
      rw [hn']
      exact ⟨vp_of (n := 0) (by omega) (by omega), fun _ => h, fun c => absurd (nI_le (Nat.le_refl _) (by omega)) c⟩
    | succ d ih =>
      intro i hi
      unfold lpX8_moved_4
      rw [hn']
      refine ⟨vp_of (n := 0) (by omega) (by omega), fun c => absurd c (nI_ge (by omega) (by omega)), fun _ => ?_⟩
      intro x5 e5
      rw [show (((2 : Int32) + 4 * nI i) + 3) = nI (2 + 4 * i + 3) from nI_4c i 3] at e5
      rw [e5, cl_of (by omega), show 2 + 4 * i + 3 = 5 + 4 * i by omega]
      refine ⟨vp_of (by omega) (by omega), p8_size ?_⟩
      intro x7 e7
      rw [e7, nI_1]
      exact ih (i + 1) (by omega)
  exact ⟨n + 1, key n 0 (by omega)⟩
/-- both rails the same: the same functions -/
theorem slI_of {n : Nat} {S S' : Nat → Int32} (h : ∀ k, k < n → S k = S' k) (i : Int) : slI n S i = slI n S' i := by
  unfold slI
  by_cases c : 0 ≤ i ∧ i < n
  · rw [if_pos c, if_pos c, h _ (by omega)]
  · rw [if_neg c, if_neg c]
theorem fNow_of {n k : Nat} {V V' S S' : Nat → Int32} (hk : k < n) (hv : ∀ k, k < n → V k = V' k) (hs : ∀ k, k < n → S k = S' k) : fNow n V S k = fNow n V' S' k := by
  unfold fNow
  rw [hv k hk, hs k hk, slI_of hs, slI_of hs]
theorem fStep_of {n k : Nat} {K K' V V' S S' : Nat → Int32} (hk : k + 1 < n) (hK : ∀ k, k < n → K k = K' k) (hv : ∀ k, k < n → V k = V' k) (hs : ∀ k, k < n → S k = S' k) : fStep n K V S k = fStep n K' V' S' k := by
  unfold fStep
  rw [hK k (by omega), hK (k + 1) hk, fNow_of (by omega) hv hs, fNow_of hk hv hs]
theorem fReach_of {n k : Nat} {K K' B B' : Nat → Int32} (hk : k < n) (hK : ∀ k, k < n → K k = K' k) (hB : ∀ k, k < n → B k = B' k) : fReach K B k = fReach K' B' k := by
  unfold fReach
  rw [hK k hk, hB k hk]
theorem rel_fun {M : zM} {o n : Nat} {w : Nat → Int32} (h : rel M o w 0) (hn : rn M o = n) : (∀ k, k < n → rK w k = M (o + 1) k) ∧ (∀ k, k < n → rV w k = M (o + 2) k) ∧ (∀ k, k < n → rB w k = M (o + 3) k) ∧ (∀ k, k < n → rS w k = M (o + 4) k) := by
  subst hn
  refine ⟨fun k hk => ?_, fun k hk => ?_, fun k hk => ?_, fun k hk => ?_⟩
  · have := (h.2.2 k hk).1; rw [show 0 + 2 + 4 * k = 2 + 4 * k by omega] at this; exact this
  · have := (h.2.2 k hk).2.1; rw [show 0 + 3 + 4 * k = 3 + 4 * k by omega] at this; exact this
  · have := (h.2.2 k hk).2.2.1; rw [show 0 + 4 + 4 * k = 4 + 4 * k by omega] at this; exact this
  · have := (h.2.2 k hk).2.2.2; rw [show 0 + 5 + 4 * k = 5 + 4 * k by omega] at this; exact this
