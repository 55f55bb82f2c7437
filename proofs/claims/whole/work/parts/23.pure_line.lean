/-! PURE: wish, second sum, closing; peg(), line() -/
def fWish (n : Nat) (V : Nat → Int32) (x : Int32) : Int32 := (V (n - 1) - V 0) * x / (nI n - 1) + V 0
def fSec (n : Nat) (V : Nat → Int32) (x : Int32) : Nat → Int32 := fAcc (fun a b => a + b) (fun k => (fWish n V (nI k) - V k) * (x - nI k))
def fDif (n : Nat) (V : Nat → Int32) : Int32 := fAcc (fun a b => a + b) (fun k => fWish n V (nI k) - V k) n
theorem nm1 {n : Nat} (h : 1 ≤ n) : nI n - 1 = nI (n - 1) := by
  rw [show (1 : Int32) = nI 1 from rfl, pk_sub h]
theorem nm1_ne {n : Nat} (h : 3 ≤ n) (h2 : n ≤ 12) : ¬ nI n - 1 = 0 := by
  rw [pn_eq, t_m1 (by omega), t0]; omega
theorem p2_wish {M : zM} {o n : Nat} {x : Int32} {Q : Int32 → Prop} (hn : M o 0 = nI n) (h3 : 3 ≤ n) (h12 : n ≤ 12) (h : Q (fWish n (M (o + 2)) x)) : wX2_wish M o x Q := by
  unfold wX2_wish
  rw [hn]
  refine ⟨fun _ => ?_, fun c => absurd (nI_le (a := 2) (by omega) (by omega)) c⟩
  refine ⟨by rw [nm1 (by omega)]; exact vp_of (by omega) (by omega), fun x4 e4 x5 e5 => ⟨nm1_ne h3 h12, fun x6 e6 => ?_⟩⟩
  have e4' : x4 = M (o + 2) (n - 1) := by rw [e4, nm1 (by omega), cl_of (by omega)]
  rw [e6, e5, e4']
  exact h
theorem p8_wish {M : zM} {n : Nat} {x : Int32} {Q : Int32 → Prop} (hn : M 206 0 = nI n) (h3 : 3 ≤ n) (h12 : n ≤ 12) (h : Q (fWish n (rV (M 206)) x)) : wX8_wish M 200 x Q := by
  have hn' : M (200 + 6) (0 : Int32).toNatClampNeg = nI n := hn
  unfold wX8_wish
  rw [hn']
  intro x4 e4 x5 e5
  rw [e4, nm1 (by omega), show (((2 : Int32) + 4 * nI (n - 1)) + 1) = nI (2 + 4 * (n - 1) + 1) from nI_4c (n - 1) 1] at e5
  rw [e5, cl_of (by omega), show 2 + 4 * (n - 1) + 1 = 3 + 4 * (n - 1) by omega]
  refine ⟨vp_of (by omega) (by omega), fun x6 e6 x7 e7 => ⟨by rw [e7]; exact nm1_ne h3 h12, fun x8 e8 => ?_⟩⟩
  rw [e8, e6, e7]
  exact h
theorem p2_secondSum {M : zM} {o n m : Nat} {Q : Int32 → Prop} (hn : M o 0 = nI n) (h3 : 3 ≤ n) (h12 : n ≤ 12) (hm : m ≤ n) (h : Q (fSec n (M (o + 2)) (nI m) m)) : wX2_secondSum M o (nI m) Q := by
  have key : ∀ d i, i + d = m → lpX2_secondSum_4 M o (nI m) Q (d + 1) (fSec n (M (o + 2)) (nI m) i) (nI i) := by
    intro d
    induction d with
    | zero =>
      intro i hi
      obtain rfl : i = m := by omega
      unfold lpX2_secondSum_4
      exact ⟨fun _ => h, fun c => absurd (nI_le (Nat.le_refl _) (by omega)) c⟩
    | succ d ih =>
      intro i hi
      unfold lpX2_secondSum_4
      refine ⟨fun c => absurd c (nI_ge (by omega) (by omega)), fun _ => p2_wish hn h3 h12 ⟨vp_of (by omega) (by omega), ?_⟩⟩
      intro x7 e7 x8 e8
      rw [e8, nI_1, e7, cl_of (by omega)]
      exact ih (i + 1) (by omega)
  exact ⟨m + 1, key m 0 (by omega)⟩
theorem p8_secondSum {M : zM} {n m : Nat} {Q : Int32 → Prop} (hn : M 206 0 = nI n) (h3 : 3 ≤ n) (h12 : n ≤ 12) (hm : m ≤ n) (h : Q (fSec n (rV (M 206)) (nI m) m)) : wX8_secondSum M 200 (nI m) Q := by
  have key : ∀ d i, i + d = m → lpX8_secondSum_4 M 200 (nI m) Q (d + 1) (fSec n (rV (M 206)) (nI m) i) (nI i) := by
    intro d
    induction d with
    | zero =>
      intro i hi
      obtain rfl : i = m := by omega
      unfold lpX8_secondSum_4
      exact ⟨fun _ => h, fun c => absurd (nI_le (Nat.le_refl _) (by omega)) c⟩
    | succ d ih =>
      intro i hi
      unfold lpX8_secondSum_4
      refine ⟨fun c => absurd c (nI_ge (by omega) (by omega)), fun _ => p8_wish hn h3 h12 ?_⟩
      intro x7 e7
      rw [show (((2 : Int32) + 4 * nI i) + 1) = nI (2 + 4 * i + 1) from nI_4c i 1] at e7
      rw [e7, cl_of (by omega), show 2 + 4 * i + 1 = 3 + 4 * i by omega]
      refine ⟨vp_of (by omega) (by omega), ?_⟩
      intro x8 e8 x9 e9
      rw [e9, nI_1, e8]
      exact ih (i + 1) (by omega)
  exact ⟨m + 1, key m 0 (by omega)⟩
theorem p2_closes {M : zM} {o n : Nat} {Q : Int32 → Prop} (hn : M o 0 = nI n) (h3 : 3 ≤ n) (h12 : n ≤ 12) (h : Q (if fDif n (M (o + 2)) = 0 ∧ fSec n (M (o + 2)) (nI (n - 1)) (n - 1) = 0 then 1 else 0)) : wX2_closes M o Q := by
  unfold wX2_closes
  have key : ∀ (K : Int32 → Int32 → Prop), K (fDif n (M (o + 2))) (nI n) → ∀ d i, i + d = n → lpX2_closes_4 M o K (d + 1) (fAcc (fun a b => a + b) (fun k => fWish n (M (o + 2)) (nI k) - M (o + 2) k) i) (nI i) := by
    intro K hK d
    induction d with
    | zero =>
      intro i hi
      obtain rfl : i = n := by omega
      unfold lpX2_closes_4
      rw [hn]
      exact ⟨fun _ => hK, fun c => absurd (nI_le (Nat.le_refl _) (by omega)) c⟩
    | succ d ih =>
      intro i hi
      unfold lpX2_closes_4
      rw [hn]
      refine ⟨fun c => absurd c (nI_ge (by omega) (by omega)), fun _ => p2_wish hn h3 h12 ⟨vp_of (by omega) (by omega), ?_⟩⟩
      rw [cl_of (by omega)]
      first
        | (intro x7 e7 x8 e8; rw [e8, nI_1, e7]; exact ih (i + 1) (by omega))
        | (intro x8 e8; rw [e8, nI_1]; exact ih (i + 1) (by omega))
  refine ⟨n + 1, key _ ?_ n 0 (by omega)⟩
  refine ⟨fun c => ?_, fun c => ?_⟩
  · rwa [if_neg (fun q => c q.1)] at h
  · rw [hn, nm1 (by omega)]
    refine p2_secondSum hn h3 h12 (by omega) ⟨fun d => ?_, fun d => ?_⟩
    · rwa [if_neg (fun q => d q.2)] at h
    · rwa [if_pos ⟨c, d⟩] at h
theorem p8_isClosing {M : zM} {n : Nat} {Q : Int32 → Prop} (hn : M 206 0 = nI n) (h3 : 3 ≤ n) (h12 : n ≤ 12) (h : Q (if fDif n (rV (M 206)) = 0 ∧ fSec n (rV (M 206)) (nI (n - 1)) (n - 1) = 0 then 1 else 0)) : wX8_isClosing M 200 Q := by
  have hn' : M (200 + 6) (0 : Int32).toNatClampNeg = nI n := hn
  unfold wX8_isClosing
  have key : ∀ (K : Int32 → Int32 → Prop), K (fDif n (rV (M 206))) (nI n) → ∀ d i, i + d = n → lpX8_isClosing_4 M 200 K (d + 1) (fAcc (fun a b => a + b) (fun k => fWish n (rV (M 206)) (nI k) - rV (M 206) k) i) (nI i) := by
    intro K hK d
    induction d with
    | zero =>
      intro i hi
      obtain rfl : i = n := by omega
      unfold lpX8_isClosing_4
      rw [hn']
      exact ⟨fun _ => hK, fun c => absurd (nI_le (Nat.le_refl _) (by omega)) c⟩
    | succ d ih =>
      intro i hi
      unfold lpX8_isClosing_4
      rw [hn']
      refine ⟨fun c => absurd c (nI_ge (by omega) (by omega)), fun _ => p8_wish hn h3 h12 ?_⟩
      intro x7 e7
      rw [show (((2 : Int32) + 4 * nI i) + 1) = nI (2 + 4 * i + 1) from nI_4c i 1] at e7
      rw [e7, cl_of (by omega), show 2 + 4 * i + 1 = 3 + 4 * i by omega]
      refine ⟨vp_of (by omega) (by omega), ?_⟩
      first
        | (intro x8 e8 x9 e9; rw [e9, nI_1, e8]; exact ih (i + 1) (by omega))
        | (intro x8 e8; rw [e8, nI_1]; exact ih (i + 1) (by omega))
  refine ⟨n + 1, key _ ?_ n 0 (by omega)⟩
  refine ⟨fun c => ?_, fun c x7 e7 => ?_⟩
  · rwa [if_neg (fun q => c q.1)] at h
  · rw [hn', nm1 (by omega)] at e7
    rw [e7]
    refine p8_secondSum hn h3 h12 (by omega) ⟨fun d => ?_, fun d => ?_⟩
    · rwa [if_neg (fun q => d q.2)] at h
    · rwa [if_pos ⟨c, d⟩] at h
theorem fWish_of {n : Nat} {V V' : Nat → Int32} {x : Int32} (h1 : 1 ≤ n) (hv : ∀ k, k < n → V k = V' k) : fWish n V x = fWish n V' x := by
  unfold fWish; rw [hv (n - 1) (by omega), hv 0 (by omega)]
theorem fSec_of {n m : Nat} {V V' : Nat → Int32} {x : Int32} (h1 : 1 ≤ n) (hm : m ≤ n) (hv : ∀ k, k < n → V k = V' k) : fSec n V x m = fSec n V' x m := by
  unfold fSec
  exact fAcc_of (fun k hk => by rw [fWish_of h1 hv, hv k (by omega)])
theorem fDif_of {n : Nat} {V V' : Nat → Int32} (h1 : 1 ≤ n) (hv : ∀ k, k < n → V k = V' k) : fDif n V = fDif n V' := by
  unfold fDif
  exact fAcc_of (fun k hk => by rw [fWish_of h1 hv, hv k hk])
theorem fWorst_of {n : Nat} {K K' V V' S S' : Nat → Int32} (hK : ∀ k, k < n → K k = K' k) (hv : ∀ k, k < n → V k = V' k) (hs : ∀ k, k < n → S k = S' k) : fWorst n K V S = fWorst n K' V' S' := by
  unfold fWorst; exact fAcc_of (fun k hk => fStep_of (by omega) hK hv hs)
theorem fUneven_of {n : Nat} {K K' V V' S S' : Nat → Int32} (hK : ∀ k, k < n → K k = K' k) (hv : ∀ k, k < n → V k = V' k) (hs : ∀ k, k < n → S k = S' k) : fUneven n K V S = fUneven n K' V' S' := by
  unfold fUneven; exact fAcc_of (fun k hk => fStep_of (by omega) hK hv hs)
theorem fAllNow_of {n : Nat} {V V' S S' : Nat → Int32} (hv : ∀ k, k < n → V k = V' k) (hs : ∀ k, k < n → S k = S' k) : fAllNow n V S = fAllNow n V' S' := by
  unfold fAllNow; exact fAcc_of (fun k hk => fNow_of hk hv hs)
theorem fMoved_of {n : Nat} {S S' : Nat → Int32} (hs : ∀ k, k < n → S k = S' k) : fMoved n S = fMoved n S' := by
  unfold fMoved; exact fAcc_of (fun k hk => by rw [hs k hk])
theorem rail_pos {M : zM} (h : cRail M) {n : Nat} (e : M 20 0 = nI n) (h12 : n ≤ 12) (h0 : 0 < n) : 3 ≤ n ∧ (0 ≤ (M 21 0).toInt ∨ True) ∧ ∀ k, k < n → (1 ≤ (M 21 k).toInt ∧ (M 21 k).toInt ≤ 5) ∧ (-999 ≤ (M 22 k).toInt ∧ (M 22 k).toInt ≤ 999) ∧ (0 ≤ (M 23 k).toInt ∧ (M 23 k).toInt ≤ 3) ∧ (-3 ≤ (M 24 k).toInt ∧ (M 24 k).toInt ≤ 3) := by
  rcases h.2 with q | ⟨m, em, h3, hm, -, hok⟩
  · rw [e, pn_eq, pn_n (by omega), t0] at q; omega
  · have hnm : m = n := by
      have : nI m = nI n := by rw [← em, e]
      rw [pn_eq, pn_n (by omega), pn_n (by omega)] at this; omega
    subst hnm
    exact ⟨h3, Or.inr trivial, hok⟩
section PL
variable {S : zM → Prop}
theorem s_peg : st_peg (fun M _ => cAll S M) := by
  intro M J a w hI
  obtain ⟨n, e7, e8, h12, hrn, hn0⟩ := rail_n hI.2.2.2.1
  obtain ⟨rk, rv, rb, rs⟩ := rel_fun hI.2.2.2.1.1 hrn
  unfold wX7_peg
  refine p7_isPeg ?_
  rw [e7]
  refine ⟨fun h => ?_, fun h => ?_⟩
  · obtain ⟨k, hk, rfl⟩ := zin_nat (by omega) h
    obtain ⟨h3, -, hok⟩ := rail_pos hI.2.2.2.1 e7 h12 (by omega)
    have hb := (hok k hk).2.2.1
    have fin : ∀ r : Int32, ((w.toInt < 0 ∨ 7 < w.toInt) → r = -1000001) → (w.toInt = 0 → r = M 22 k) → (w.toInt = 1 → r = M 23 k) → (w.toInt = 2 → r = fReach (M 21) (M 23) k) → (w.toInt = 3 → r = M 24 k) → (w.toInt = 4 → r = fNow n (M 22) (M 24) k) → (w.toInt = 5 → k + 1 < n → r = fStep n (M 21) (M 22) (M 24) k) → (w.toInt = 5 → k + 1 = n → r = -1000000) → (w.toInt = 6 → r = fWish n (M 22) (nI k)) → (w.toInt = 7 → r = fSec n (M 22) (nI k) k) → wX8_peg M 200 (nI k) w (fun r2 => r = r2 ∧ cAll S M) := by
      intro r g0 g1 g2 g3 g4 g5 g6 g7 g8 g9
      unfold wX8_peg
      refine p8_isPeg ?_
      rw [e8]
      refine ⟨fun _ => ?_, fun c => absurd c h⟩
      refine ⟨fun c => ⟨g0 c, hI⟩, fun c x ex => ?_, fun c x ex => ?_, fun c => p8_reach (by omega) (by omega) (by omega) ⟨?_, hI⟩, fun c x ex => ?_, fun c => p8_nowOf (by omega) (by omega) e8 h12 hk ⟨?_, hI⟩, fun c => ⟨fun d => p8_step (by omega) (by omega) e8 h12 ?_ ⟨?_, hI⟩, fun d => ⟨?_, hI⟩⟩, fun c => p8_wish e8 h3 h12 ⟨?_, hI⟩, fun c => p8_secondSum e8 h3 h12 (by omega) ⟨?_, hI⟩⟩
      · rw [show (((2 : Int32) + 4 * nI k) + 1) = nI (2 + 4 * k + 1) from nI_4c k 1] at ex
        rw [ex, cl_of (by omega)]
        exact ⟨vp_of (by omega) (by omega), by rw [g1 c, show 2 + 4 * k + 1 = 3 + 4 * k by omega]; exact (rv k hk).symm, hI⟩
      · rw [show (((2 : Int32) + 4 * nI k) + 2) = nI (2 + 4 * k + 2) from nI_4c k 2] at ex
        rw [ex, cl_of (by omega)]
        exact ⟨vp_of (by omega) (by omega), by rw [g2 c, show 2 + 4 * k + 2 = 4 + 4 * k by omega]; exact (rb k hk).symm, hI⟩
      · rw [g3 c]; exact (fReach_of hk rk rb).symm
      · rw [show (((2 : Int32) + 4 * nI k) + 3) = nI (2 + 4 * k + 3) from nI_4c k 3] at ex
        rw [ex, cl_of (by omega)]
        exact ⟨vp_of (by omega) (by omega), by rw [g4 c, show 2 + 4 * k + 3 = 5 + 4 * k by omega]; exact (rs k hk).symm, hI⟩
      · rw [g5 c]; exact (fNow_of hk rv rs).symm
      · have d : ¬ nI k + 1 = M 206 0 := d
        rw [e8, nI_1, pn_eq, pn_n (by omega), pn_n (by omega)] at d; omega
      · have d : ¬ nI k + 1 = M 206 0 := d
        rw [e8, nI_1, pn_eq, pn_n (by omega), pn_n (by omega)] at d
        rw [g6 c (by omega)]; exact (fStep_of (by omega) rk rv rs).symm
      · have d : nI k + 1 = M 206 0 := d
        rw [e8, nI_1, pn_eq, pn_n (by omega), pn_n (by omega)] at d
        exact g7 c (by omega)
      · rw [g8 c]; exact (fWish_of (by omega) rv).symm
      · rw [g9 c]; exact (fSec_of (by omega) (by omega) rv).symm
    refine ⟨fun c => ?_, fun c => ⟨vp_of (by omega) (by omega), ?_⟩, fun c => ⟨vp_of (by omega) (by omega), ?_⟩, fun c => p2_reach e7 h12 hk hb ?_, fun c => ⟨vp_of (by omega) (by omega), ?_⟩, fun c => p2_now e7 h12 hk ?_, fun c => ⟨fun d => p2_step e7 h12 ?_ ?_, fun d => ?_⟩, fun c => p2_wish e7 h3 h12 ?_, fun c => p2_secondSum e7 h3 h12 (by omega) ?_⟩
    · exact fin _ (fun _ => rfl) (fun q => by omega) (fun q => by omega) (fun q => by omega) (fun q => by omega) (fun q => by omega) (fun q => by omega) (fun q => by omega) (fun q => by omega) (fun q => by omega)
    · rw [cl_of (by omega)]; exact fin _ (fun q => by omega) (fun _ => rfl) (fun q => by omega) (fun q => by omega) (fun q => by omega) (fun q => by omega) (fun q => by omega) (fun q => by omega) (fun q => by omega) (fun q => by omega)
    · rw [cl_of (by omega)]; exact fin _ (fun q => by omega) (fun q => by omega) (fun _ => rfl) (fun q => by omega) (fun q => by omega) (fun q => by omega) (fun q => by omega) (fun q => by omega) (fun q => by omega) (fun q => by omega)
    · exact fin _ (fun q => by omega) (fun q => by omega) (fun q => by omega) (fun _ => rfl) (fun q => by omega) (fun q => by omega) (fun q => by omega) (fun q => by omega) (fun q => by omega) (fun q => by omega)
    · rw [cl_of (by omega)]; exact fin _ (fun q => by omega) (fun q => by omega) (fun q => by omega) (fun q => by omega) (fun _ => rfl) (fun q => by omega) (fun q => by omega) (fun q => by omega) (fun q => by omega) (fun q => by omega)
    · exact fin _ (fun q => by omega) (fun q => by omega) (fun q => by omega) (fun q => by omega) (fun q => by omega) (fun _ => rfl) (fun q => by omega) (fun q => by omega) (fun q => by omega) (fun q => by omega)
    · have d : ¬ nI k = nI n - 1 := d
      rw [nm1 (by omega), pn_eq, pn_n (by omega), pn_n (by omega)] at d; omega
    · have d : ¬ nI k = nI n - 1 := d
      rw [nm1 (by omega), pn_eq, pn_n (by omega), pn_n (by omega)] at d
      exact fin _ (fun q => by omega) (fun q => by omega) (fun q => by omega) (fun q => by omega) (fun q => by omega) (fun q => by omega) (fun _ _ => rfl) (fun _ _ => by omega) (fun q => by omega) (fun q => by omega)
    · have d : nI k = nI n - 1 := d
      rw [nm1 (by omega), pn_eq, pn_n (by omega), pn_n (by omega)] at d
      exact fin _ (fun q => by omega) (fun q => by omega) (fun q => by omega) (fun q => by omega) (fun q => by omega) (fun q => by omega) (fun _ _ => by omega) (fun _ _ => rfl) (fun q => by omega) (fun q => by omega)
    · exact fin _ (fun q => by omega) (fun q => by omega) (fun q => by omega) (fun q => by omega) (fun q => by omega) (fun q => by omega) (fun q => by omega) (fun q => by omega) (fun _ => rfl) (fun q => by omega)
    · exact fin _ (fun q => by omega) (fun q => by omega) (fun q => by omega) (fun q => by omega) (fun q => by omega) (fun q => by omega) (fun q => by omega) (fun q => by omega) (fun q => by omega) (fun _ => rfl)
  · unfold wX8_peg
    refine p8_isPeg ?_
    rw [e8]
    exact ⟨fun c => absurd h c, fun _ => ⟨rfl, hI⟩⟩
end PL
