section PL
variable {S : zM → Prop}
theorem p2_isThere {M : zM} {o : Nat} {Q : Int32 → Prop} (h : Q (if M o 0 ≤ 0 then 0 else 1)) : wX2_isThere M o Q := by
  unfold wX2_isThere
  exact ⟨fun c => by rwa [if_pos c] at h, fun c => by rwa [if_neg c] at h⟩
theorem p8_isRail {M : zM} {Q : Int32 → Prop} (h : Q (if M 206 0 ≤ 0 then 0 else 1)) : wX8_isRail M 200 Q := by
  unfold wX8_isRail
  exact ⟨fun c => by have c : M 206 0 ≤ 0 := c; rwa [if_pos c] at h, fun c => by have c : ¬ M 206 0 ≤ 0 := c; rwa [if_neg c] at h⟩
theorem n_le0 {n : Nat} (h : n ≤ 12) : nI n ≤ 0 ↔ n = 0 := by rw [pn_le, pn_n (by omega), t0]; omega
theorem p8_lineloop {M : zM} {n : Nat} {K : Int32 → Int32 → Int32 → Prop} (hn : M 206 0 = nI n) (h12 : n ≤ 12) (h : K (fAllNow n (rV (M 206)) (rS (M 206))) (fAllSl n (rS (M 206))) (nI n)) : ∃ fu, lpX8_line_17 M 200 K fu 0 0 0 := by
  have hn' : M (200 + 6) (0 : Int32).toNatClampNeg = nI n := hn
  have key : ∀ d i, i + d = n → lpX8_line_17 M 200 K (d + 1) (fAcc (fun a b => a + b) (fNow n (rV (M 206)) (rS (M 206))) i) (fAcc (fun a b => a + b) (rS (M 206)) i) (nI i) := by
    intro d
    induction d with
    | zero =>
      intro i hi
      obtain rfl : i = n := by omega
      unfold lpX8_line_17
      rw [hn']
      exact ⟨fun _ => h, fun c => absurd (nI_le (Nat.le_refl _) (by omega)) c⟩
    | succ d ih =>
      intro i hi
      unfold lpX8_line_17
      rw [hn']
      refine ⟨fun c => absurd c (nI_ge (by omega) (by omega)), fun _ => p8_nowOf (o := 206) (by omega) (by omega) hn h12 (by omega) ?_⟩
      intro x15 e15
      rw [show (((2 : Int32) + 4 * nI i) + 3) = nI (2 + 4 * i + 3) from nI_4c i 3] at e15
      rw [e15, cl_of (by omega), show 2 + 4 * i + 3 = 5 + 4 * i by omega]
      refine ⟨vp_of (by omega) (by omega), fun x16 e16 => ?_⟩
      rw [e16, nI_1]
      exact ih (i + 1) (by omega)
  exact ⟨n + 1, key n 0 (by omega)⟩
theorem s_line : st_line (fun M _ => cAll S M) := by
  intro M J w hI
  obtain ⟨n, e7, e8, h12, hrn, hn0⟩ := rail_n hI.2.2.2.1
  obtain ⟨rk, rv, rb, rs⟩ := rel_fun hI.2.2.2.1.1 hrn
  unfold wX7_line
  refine p2_isThere ?_
  show (¬ (if M 20 0 ≤ 0 then (0 : Int32) else 1) = 0 → _) ∧ ((if M 20 0 ≤ 0 then (0 : Int32) else 1) = 0 → _)
  rw [e7]
  by_cases hz : n = 0
  · rw [if_pos ((n_le0 h12).2 hz)]
    refine ⟨fun c => absurd rfl c, fun _ => ?_⟩
    unfold wX8_line
    refine p8_isRail ?_
    rw [e8, if_pos ((n_le0 h12).2 hz)]
    exact ⟨fun c => absurd rfl c, fun _ => ⟨rfl, hI⟩⟩
  · rw [if_neg (fun q => hz ((n_le0 h12).1 q))]
    refine ⟨fun _ => ?_, fun c => absurd c (by decide)⟩
    obtain ⟨h3, -, hok⟩ := rail_pos hI.2.2.2.1 e7 h12 (by omega)
    have fin : ∀ r : Int32, ((w.toInt < 0 ∨ 4 < w.toInt) → r = -1000001) → (w.toInt = 0 → r = fWorst n (M 21) (M 22) (M 24)) → (w.toInt = 1 → r = fUneven n (M 21) (M 22) (M 24)) → (w.toInt = 2 → r = fAllNow n (M 22) (M 24)) → (w.toInt = 3 → r = fAllSl n (M 24)) → (w.toInt = 4 → r = if fDif n (M 22) = 0 ∧ fSec n (M 22) (nI (n - 1)) (n - 1) = 0 then 1 else 0) → wX8_line M 200 w (fun r2 => r = r2 ∧ cAll S M) := by
      intro r g0 g1 g2 g3 g4 g5
      unfold wX8_line
      refine p8_isRail ?_
      rw [e8, if_neg (fun q => hz ((n_le0 h12).1 q))]
      refine ⟨fun _ => p8_lineloop e8 h12 ?_, fun c => absurd c (by decide)⟩
      refine ⟨fun c => ⟨g0 c, hI⟩, fun c => p8_worst (o := 206) (by omega) (by omega) e8 h12 (by omega) ⟨?_, hI⟩, fun c => p8_uneven (o := 206) (by omega) (by omega) e8 h12 (by omega) ⟨?_, hI⟩, fun c => ⟨?_, hI⟩, fun c => ⟨?_, hI⟩, fun c => p8_isClosing e8 h3 h12 ?_⟩
      · rw [g1 c]; exact (fWorst_of rk rv rs).symm
      · rw [g2 c]; exact (fUneven_of rk rv rs).symm
      · rw [g3 c]; exact (fAllNow_of rv rs).symm
      · rw [g4 c]; exact (fAcc_of rs).symm
      · have hg := g5 c
        rw [fDif_of (by omega) rv, fSec_of (by omega) (by omega) rv]
        refine ⟨fun d => ⟨hg.trans d, hI⟩, fun d => ⟨?_, hI⟩⟩
        rw [hg]
        by_cases q : fDif n (M 22) = 0 ∧ fSec n (M 22) (nI (n - 1)) (n - 1) = 0
        · rw [if_pos q]
        · exact absurd (if_neg q) d
    refine ⟨fun c => ?_, fun c => p2_worst e7 h12 (by omega) ?_, fun c => p2_uneven e7 h12 (by omega) ?_, fun c => p2_allNow e7 h12 ?_, fun c => p2_allSlews e7 h12 ?_, fun c => p2_closes e7 h3 h12 ⟨fun d => ?_, fun d => ?_⟩⟩
    · exact fin _ (fun _ => rfl) (fun q => by omega) (fun q => by omega) (fun q => by omega) (fun q => by omega) (fun q => by omega)
    · exact fin _ (fun q => by omega) (fun _ => rfl) (fun q => by omega) (fun q => by omega) (fun q => by omega) (fun q => by omega)
    · exact fin _ (fun q => by omega) (fun q => by omega) (fun _ => rfl) (fun q => by omega) (fun q => by omega) (fun q => by omega)
    · exact fin _ (fun q => by omega) (fun q => by omega) (fun q => by omega) (fun _ => rfl) (fun q => by omega) (fun q => by omega)
    · exact fin _ (fun q => by omega) (fun q => by omega) (fun q => by omega) (fun q => by omega) (fun _ => rfl) (fun q => by omega)
    · exact fin _ (fun q => by omega) (fun q => by omega) (fun q => by omega) (fun q => by omega) (fun q => by omega) (fun _ => d.symm)
    · refine fin _ (fun q => by omega) (fun q => by omega) (fun q => by omega) (fun q => by omega) (fun q => by omega) (fun _ => ?_)
      by_cases q : fDif n (M 22) = 0 ∧ fSec n (M 22) (nI (n - 1)) (n - 1) = 0
      · rw [if_pos q]
      · exact absurd (if_neg q) d
end PL
