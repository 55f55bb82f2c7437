/-! PURE: moment(), count() -/
def bey (y : Int64) : Prop := y < -2147483648 ∨ 2147483647 < y
theorem cmp_3 (x y : Int64) : (x < y ∧ lg_cmp x y = -1) ∨ (x = y ∧ lg_cmp x y = 0) ∨ (y < x ∧ lg_cmp x y = 1) := by
  unfold lg_cmp
  by_cases h : y < x
  · right; right; exact ⟨h, if_pos h⟩
  · by_cases h2 : x = y
    · right; left; exact ⟨h2, by rw [if_neg h, if_pos h2]⟩
    · left
      refine ⟨?_, by rw [if_neg h, if_neg h2]⟩
      rw [Int64.lt_iff_toInt_lt] at *
      have : x.toInt ≠ y.toInt := fun q => h2 (Int64.toInt_inj.mp q)
      omega
theorem cmp_lt (x y : Int64) : lg_cmp x y < 0 ↔ x < y := by
  rcases cmp_3 x y with ⟨a, e⟩ | ⟨a, e⟩ | ⟨a, e⟩ <;> rw [e]
  · exact ⟨fun _ => a, fun _ => by decide⟩
  · exact ⟨fun c => absurd c (by decide), fun c => by rw [a, Int64.lt_iff_toInt_lt] at c; omega⟩
  · exact ⟨fun c => absurd c (by decide), fun c => by rw [Int64.lt_iff_toInt_lt] at a c; omega⟩
theorem cmp_gt (x y : Int64) : 0 < lg_cmp x y ↔ y < x := by
  rcases cmp_3 x y with ⟨a, e⟩ | ⟨a, e⟩ | ⟨a, e⟩ <;> rw [e]
  · exact ⟨fun c => absurd c (by decide), fun c => by rw [Int64.lt_iff_toInt_lt] at a c; omega⟩
  · exact ⟨fun c => absurd c (by decide), fun c => by rw [a, Int64.lt_iff_toInt_lt] at c; omega⟩
  · exact ⟨fun _ => a, fun _ => by decide⟩
theorem p7_bey {M : zM} {y : Int64} {Q : Int32 → Prop} (h1 : bey y → Q 1) (h0 : ¬ bey y → Q 0) : wX7_isBeyondInt M y Q := by
  unfold wX7_isBeyondInt
  refine ⟨fun c => h1 (Or.inl ((cmp_lt _ _).1 c)), fun c => ⟨fun d => h0 ?_, fun d => h1 ?_⟩⟩
  · rintro (q | q)
    · exact c ((cmp_lt _ _).2 q)
    · have := (cmp_gt _ _).2 q; rw [pn_lt] at this; rw [pn_le] at d; omega
  · right
    exact (cmp_gt _ _).1 (by rw [pn_lt]; rw [pn_le] at d; omega)
theorem p8_isInt {M : zM} {y : Int64} {Q : Int32 → Prop} (h1 : bey y → Q 0) (h0 : ¬ bey y → Q 1) : wX8_isInt M y Q := by
  unfold wX8_isInt
  refine ⟨fun c => h1 (Or.inl ((cmp_lt _ _).1 c)), fun c => ⟨fun d => h1 (Or.inr ((cmp_gt _ _).1 d)), fun d => h0 ?_⟩⟩
  rintro (q | q)
  · exact c ((cmp_lt _ _).2 q)
  · exact d ((cmp_gt _ _).2 q)
/-- the sum, made one by one: what comes of it (none: it goes beyond) -/
def mPr (f : Nat → Int32) (w : Int32) (i : Nat) : Int64 := (f i).toInt64 * (nI (i + 1)).toInt64 * w.toInt64
def mGo (f : Nat → Int32) (w : Int32) (n : Nat) (P : Int64 → Prop) (N : Prop) : Nat → Int64 → Nat → Prop
  | 0, y, _ => P y
  | d + 1, y, i => (bey (mPr f w i) → N) ∧ (¬ bey (mPr f w i) → (bey (y + mPr f w i) → N) ∧ (¬ bey (y + mPr f w i) → mGo f w n P N d (y + mPr f w i) (i + 1)))
theorem p7_moment {M : zM} {n : Nat} {w : Int32} {Q : Int32 → zM → Prop} (hn : M 20 0 = nI n) (h12 : n ≤ 12) (h : mGo (fNow n (M 22) (M 24)) w n (fun y => wX7_fine M 0 y.toInt32 Q) (wX7_found M 0 6 Q) n 0 0) : ∃ fu, lpX7_moment_18 M 0 w Q fu 0 0 := by
  have key : ∀ d i y, i + d = n → mGo (fNow n (M 22) (M 24)) w n (fun y => wX7_fine M 0 y.toInt32 Q) (wX7_found M 0 6 Q) d y i → lpX7_moment_18 M 0 w Q (d + 1) y (nI i) := by
    intro d
    induction d with
    | zero =>
      intro i y hi hg
      obtain rfl : i = n := by omega
      unfold lpX7_moment_18
      rw [show M (0 + 20) 0 = nI i from hn]
      exact ⟨fun _ => hg, fun c => absurd (nI_le (Nat.le_refl _) (by omega)) c⟩
    | succ d ih =>
      intro i y hi hg
      unfold lpX7_moment_18
      rw [show M (0 + 20) 0 = nI n from hn]
      refine ⟨fun c => absurd c (nI_ge (by omega) (by omega)), fun _ => p2_now (o := 20) hn h12 (by omega) ?_⟩
      intro y10 e10
      rw [nI_1] at e10
      have e10 : y10 = mPr (fNow n (M 22) (M 24)) w i := e10
      rw [e10]
      refine p7_bey (fun hb => ⟨fun _ => hg.1 hb, fun c => absurd c (by decide)⟩) (fun hb => ⟨fun c => absurd rfl c, fun _ => ?_⟩)
      refine p7_bey (fun hb2 => ⟨fun c => absurd c (by decide), fun _ => (hg.2 hb).1 hb2⟩) (fun hb2 => ⟨fun _ => ?_, fun c => absurd rfl c⟩)
      intro x15 e15
      rw [e15, nI_1]
      exact ih (i + 1) _ (by omega) ((hg.2 hb).2 hb2)
  exact ⟨n + 1, key n 0 0 (by omega) h⟩
theorem p8_moment {M : zM} {n : Nat} {w : Int32} {Q : Int32 → zM → Prop} (hn : M 206 0 = nI n) (h12 : n ≤ 12) (h : mGo (fNow n (rV (M 206)) (rS (M 206))) w n (fun y => wX8_well M 200 y.toInt32 Q) (wX8_found M 200 6 Q) n 0 0) : ∃ fu, lpX8_moment_15 M 200 w Q fu 0 0 := by
  have key : ∀ d i y, i + d = n → mGo (fNow n (rV (M 206)) (rS (M 206))) w n (fun y => wX8_well M 200 y.toInt32 Q) (wX8_found M 200 6 Q) d y i → lpX8_moment_15 M 200 w Q (d + 1) y (nI i) := by
    intro d
    induction d with
    | zero =>
      intro i y hi hg
      obtain rfl : i = n := by omega
      unfold lpX8_moment_15
      rw [show M (200 + 6) (0 : Int32).toNatClampNeg = nI i from hn]
      exact ⟨fun _ => hg, fun c => absurd (nI_le (Nat.le_refl _) (by omega)) c⟩
    | succ d ih =>
      intro i y hi hg
      unfold lpX8_moment_15
      rw [show M (200 + 6) (0 : Int32).toNatClampNeg = nI n from hn]
      refine ⟨fun c => absurd c (nI_ge (by omega) (by omega)), fun _ => p8_nowOf (o := 206) (by omega) (by omega) hn h12 (by omega) ?_⟩
      intro y10 e10
      rw [nI_1] at e10
      have e10 : y10 = mPr (fNow n (rV (M 206)) (rS (M 206))) w i := e10
      rw [e10]
      refine p8_isInt (fun hb => ⟨fun _ => hg.1 hb, fun c => absurd rfl c⟩) (fun hb => ⟨fun c => absurd c (by decide), fun _ => ?_⟩)
      refine p8_isInt (fun hb2 => ⟨fun c => absurd rfl c, fun _ => (hg.2 hb).1 hb2⟩) (fun hb2 => ⟨fun _ => ?_, fun c => absurd c (by decide)⟩)
      intro x15 e15
      rw [e15, nI_1]
      exact ih (i + 1) _ (by omega) ((hg.2 hb).2 hb2)
  exact ⟨n + 1, key n 0 0 (by omega) h⟩
theorem mGo_both {f g : Nat → Int32} {w : Int32} {n : Nat} {P : Int64 → Prop} {N : Prop} (hf : ∀ k, k < n → f k = g k)
    (hP : ∀ y, (∀ (P2 : Int64 → Prop) (N2 : Prop), P2 y → mGo g w n P2 N2 n 0 0) → P y) (hN : (∀ (P2 : Int64 → Prop) (N2 : Prop), N2 → mGo g w n P2 N2 n 0 0) → N) : mGo f w n P N n 0 0 := by
  have key : ∀ d i y, i + d = n → (∀ (P2 : Int64 → Prop) (N2 : Prop), mGo g w n P2 N2 d y i → mGo g w n P2 N2 n 0 0) → mGo f w n P N d y i := by
    intro d
    induction d with
    | zero => intro i y hi hg; exact hP y (fun P2 N2 h => hg P2 N2 h)
    | succ d ih =>
      intro i y hi hg
      have e : mPr f w i = mPr g w i := by unfold mPr; rw [hf i (by omega)]
      unfold mGo
      rw [e]
      refine ⟨fun hb => hN (fun P2 N2 h => hg P2 N2 ⟨fun _ => h, fun c => absurd hb c⟩), fun hb => ⟨fun hb2 => hN (fun P2 N2 h => hg P2 N2 ⟨fun c => absurd c hb, fun _ => ⟨fun _ => h, fun c => absurd hb2 c⟩⟩), fun hb2 => ih (i + 1) _ (by omega) (fun P2 N2 h => hg P2 N2 ⟨fun c => absurd c hb, fun _ => ⟨fun c => absurd c hb2, fun _ => h⟩⟩)⟩⟩
  exact key n 0 0 (by omega) (fun P2 N2 h => h)
section PM
variable {S : zM → Prop}
theorem s_moment (hS : sOwn S) : st_moment (fun M _ => cAll S M) := by
  intro M J w hI
  obtain ⟨n, e7, e8, h12, hrn, hn0⟩ := rail_n hI.2.2.2.1
  obtain ⟨rk, rv, rb, rs⟩ := rel_fun hI.2.2.2.1.1 hrn
  unfold wX7_moment
  refine p2_isThere ?_
  show (¬ (if M 20 0 ≤ 0 then (0 : Int32) else 1) = 0 → _) ∧ ((if M 20 0 ≤ 0 then (0 : Int32) else 1) = 0 → _)
  rw [e7]
  by_cases hz : n = 0
  · rw [if_pos ((n_le0 h12).2 hz)]
    refine ⟨fun c => absurd rfl c, fun _ => ?_⟩
    unfold wX8_moment
    refine p8_isRail ?_
    rw [e8, if_pos ((n_le0 h12).2 hz)]
    exact ⟨fun c => absurd rfl c, fun _ => ⟨rfl, hI⟩⟩
  · rw [if_neg (fun q => hz ((n_le0 h12).1 q))]
    refine ⟨fun _ => p7_moment e7 h12 ?_, fun c => absurd c (by decide)⟩
    have ref : ∀ (M1 : zM), (∀ o, o ≠ 0 → M1 o = M o) → ∀ Q : Int32 → zM → Prop, mGo (fNow n (rV (M1 206)) (rS (M1 206))) w n (fun y => wX8_well M1 200 y.toInt32 Q) (wX8_found M1 200 6 Q) n 0 0 → wX8_moment M1 200 w Q := by
      intro M1 e Q hg
      unfold wX8_moment
      refine p8_isRail ?_
      rw [e 206 (by decide), e8, if_neg (fun q => hz ((n_le0 h12).1 q))]
      exact ⟨fun _ => p8_moment (by rw [e 206 (by decide)]; exact e8) h12 hg, fun c => absurd c (by decide)⟩
    refine mGo_both (g := fNow n (rV (M 206)) (rS (M 206))) (fun k hk => (fNow_of hk rv rs).symm) ?_ ?_
    · intro y hy M1 e1
      have e : ∀ o, o ≠ 0 → M1 o = M o := fun o ho => by rw [e1, va_up_ne _ _ ho]
      refine ref M1 e _ ?_
      rw [e 206 (by decide)]
      refine hy _ _ ?_
      intro M2 e2
      refine ⟨rfl, all_status (v := 0) hS hI ?_⟩
      rw [e2, e1, va_up_ne _ _ (by decide)]
    · intro hy
      refine both_found (P := fun r1 M1 Q => wX8_moment M1 200 w Q) hS hI ?_
      intro M1 e Q hQ
      refine ref M1 e Q ?_
      rw [e 206 (by decide)]
      exact hy _ _ hQ
def cnt (p : Nat → Prop) (d : (k : Nat) → Decidable (p k)) : Nat → Nat
  | 0 => 0
  | n + 1 => cnt p d n + (match d n with | isTrue _ => 1 | isFalse _ => 0)
theorem cnt_t {p : Nat → Prop} {d : (k : Nat) → Decidable (p k)} {n : Nat} (h : p n) : cnt p d (n + 1) = cnt p d n + 1 := by
  show cnt p d n + (match d n with | isTrue _ => 1 | isFalse _ => 0) = _
  cases d n with
  | isTrue _ => rfl
  | isFalse q => exact absurd h q
theorem cnt_f {p : Nat → Prop} {d : (k : Nat) → Decidable (p k)} {n : Nat} (h : ¬ p n) : cnt p d (n + 1) = cnt p d n := by
  show cnt p d n + (match d n with | isTrue _ => 1 | isFalse _ => 0) = _
  cases d n with
  | isTrue q => exact absurd q h
  | isFalse _ => rfl
theorem cnt_of {p q : Nat → Prop} {d : (k : Nat) → Decidable (p k)} {e : (k : Nat) → Decidable (q k)} {n : Nat} (h : ∀ k, k < n → (p k ↔ q k)) : cnt p d n = cnt q e n := by
  induction n with
  | zero => rfl
  | succ n ih =>
    have ih := ih (fun k hk => h k (by omega))
    by_cases c : p n
    · rw [cnt_t c, cnt_t ((h n (by omega)).1 c), ih]
    · rw [cnt_f c, cnt_f (fun q => c ((h n (by omega)).2 q)), ih]
theorem p7_rowsThere {M : zM} {Q : Int32 → Prop} (h : Q (nI (cnt (fun r => ¬ M (2 + 2 * r) 0 = -1) (fun _ => inferInstance) 8))) : wX7_rowsThere M 0 Q := by
  have key : ∀ d i, i + d = 8 → lpX7_rowsThere_4 M 0 Q (d + 1) (nI (cnt (fun r => ¬ M (2 + 2 * r) 0 = -1) (fun _ => inferInstance) i)) (nI i) := by
    intro d
    induction d with
    | zero =>
      intro i hi
      obtain rfl : i = 8 := by omega
      unfold lpX7_rowsThere_4
      exact ⟨fun _ => h, fun c => absurd (show (8 : Int32) ≤ nI 8 from by decide) c⟩
    | succ d ih =>
      intro i hi
      unfold lpX7_rowsThere_4
      refine ⟨fun c => absurd c (nI_ge (a := i) (b := 8) (by omega) (by decide)), fun _ => ⟨vp_of (by omega) (by omega), p3_isMissing ?_⟩⟩
      rw [cl_of (by omega), show 0 + 1 + 1 + 2 * i = 2 + 2 * i by omega]
      have hs := ih (i + 1) (by omega)
      by_cases c : M (2 + 2 * i) 0 = -1
      · rw [if_pos c]
        rw [cnt_f (fun q => q c)] at hs
        exact ⟨fun _ x7 e7 => by rw [e7, nI_1]; exact hs, fun q => absurd q (by decide)⟩
      · rw [if_neg c]
        rw [cnt_t c] at hs
        exact ⟨fun q => absurd rfl q, fun _ x8 e8 x9 e9 => by rw [e9, e8, nI_1, nI_1]; exact hs⟩
  exact ⟨9, key 8 0 (by omega)⟩
theorem p8_rowsThere {M : zM} {Q : Int32 → Prop} (h : Q (nI (cnt (fun r => ¬ M 201 r = -1000000) (fun _ => inferInstance) 8))) : ∃ fu, lpX8_count_42 M 200 Q fu 0 0 := by
  have key : ∀ d i, i + d = 8 → lpX8_count_42 M 200 Q (d + 1) (nI (cnt (fun r => ¬ M 201 r = -1000000) (fun _ => inferInstance) i)) (nI i) := by
    intro d
    induction d with
    | zero =>
      intro i hi
      obtain rfl : i = 8 := by omega
      unfold lpX8_count_42
      exact ⟨fun _ => h, fun c => absurd (show (8 : Int32) ≤ nI 8 from by decide) c⟩
    | succ d ih =>
      intro i hi
      unfold lpX8_count_42
      refine ⟨fun c => absurd c (nI_ge (a := i) (b := 8) (by omega) (by decide)), fun _ => p8_isMissing (by omega) ?_⟩
      have hs := ih (i + 1) (by omega)
      by_cases c : M 201 i = -1000000
      · rw [if_pos c]
        rw [cnt_f (fun q => q c)] at hs
        exact ⟨fun q => absurd q (by decide), fun _ x7 e7 => by rw [e7, nI_1, Int32.add_zero]; exact hs⟩
      · rw [if_neg c]
        rw [cnt_t c] at hs
        exact ⟨fun _ x7 e7 => by rw [e7, nI_1, nI_1]; exact hs, fun q => absurd rfl q⟩
  exact ⟨9, key 8 0 (by omega)⟩
theorem p2_slewed {M : zM} {o n : Nat} {Q : Int32 → Prop} (hn : M o 0 = nI n) (h12 : n ≤ 12) (h : Q (nI (cnt (fun r => ¬ M (o + 4) r = 0) (fun _ => inferInstance) n))) : wX2_slewed M o Q := by
  have key : ∀ d i, i + d = n → lpX2_slewed_4 M o Q (d + 1) (nI (cnt (fun r => ¬ M (o + 4) r = 0) (fun _ => inferInstance) i)) (nI i) := by
    intro d
    induction d with
    | zero =>
      intro i hi
      obtain rfl : i = n := by omega
      unfold lpX2_slewed_4
      rw [hn]
      exact ⟨fun _ => h, fun c => absurd (nI_le (Nat.le_refl _) (by omega)) c⟩
    | succ d ih =>
      intro i hi
      unfold lpX2_slewed_4
      rw [hn, cl_of (by omega)]
      have hs := ih (i + 1) (by omega)
      refine ⟨fun c => absurd c (nI_ge (by omega) (by omega)), fun _ => ⟨vp_of (by omega) (by omega), fun c x5 e5 => ?_, fun c x6 e6 x7 e7 => ?_⟩⟩
      · rw [cnt_f (fun q => q c)] at hs
        rw [e5, nI_1]; exact hs
      · rw [cnt_t c] at hs
        rw [e7, e6, nI_1, nI_1]; exact hs
  exact ⟨n + 1, key n 0 (by omega)⟩
theorem p8_slewed {M : zM} {n : Nat} {Q : Int32 → Prop} (hn : M 206 0 = nI n) (h12 : n ≤ 12) (h : Q (nI (cnt (fun r => ¬ rS (M 206) r = 0) (fun _ => inferInstance) n))) : ∃ fu, lpX8_count_81 M 200 Q fu 0 0 := by
  have hn' : M (200 + 6) (0 : Int32).toNatClampNeg = nI n := hn
  have key : ∀ d i, i + d = n → lpX8_count_81 M 200 Q (d + 1) (nI (cnt (fun r => ¬ rS (M 206) r = 0) (fun _ => inferInstance) i)) (nI i) := by
    intro d
    induction d with
    | zero =>
      intro i hi
      obtain rfl : i = n := by omega
      unfold lpX8_count_81
      rw [hn']
      exact ⟨fun _ => h, fun c => absurd (nI_le (Nat.le_refl _) (by omega)) c⟩
    | succ d ih =>
      intro i hi
      unfold lpX8_count_81
      rw [hn']
      have hs := ih (i + 1) (by omega)
      refine ⟨fun c => absurd c (nI_ge (by omega) (by omega)), fun _ x11 e11 => ?_⟩
      rw [show (((2 : Int32) + 4 * nI i) + 3) = nI (2 + 4 * i + 3) from nI_4c i 3] at e11
      rw [e11, cl_of (by omega), show 2 + 4 * i + 3 = 5 + 4 * i by omega]
      refine ⟨vp_of (by omega) (by omega), fun c x5 e5 => ?_, fun c x6 e6 => ?_⟩
      · have c : rS (M 206) i = 0 := c
        rw [cnt_f (fun q => q c)] at hs
        rw [e5, nI_1, Int32.add_zero]; exact hs
      · have c : ¬ rS (M 206) i = 0 := c
        rw [cnt_t c] at hs
        rw [e6, nI_1, nI_1]; exact hs
  exact ⟨n + 1, key n 0 (by omega)⟩
theorem s_count : st_count (fun M _ => cAll S M) := by
  intro M J w hI
  obtain ⟨n, e7, e8, h12, hrn, hn0⟩ := rail_n hI.2.2.2.1
  obtain ⟨rk, rv, rb, rs⟩ := rel_fun hI.2.2.2.1.1 hrn
  have c1 : cnt (fun r => ¬ M (2 + 2 * r) 0 = -1) (fun _ => inferInstance) 8 = cnt (fun r => ¬ M 201 r = -1000000) (fun _ => inferInstance) 8 := cnt_of (fun r hr => by
    rcases row_cases hI.1 hr with ⟨a, b⟩ | ⟨a, b, -⟩
    · exact ⟨fun q => absurd b q, fun q => absurd a q⟩
    · exact ⟨fun _ => a, fun _ => b⟩)
  have c2 : cnt (fun r => ¬ M 24 r = 0) (fun _ => inferInstance) n = cnt (fun r => ¬ rS (M 206) r = 0) (fun _ => inferInstance) n := cnt_of (fun r hr => by rw [rs r hr])
  have fin : ∀ r : Int32, ((w.toInt < 0 ∨ 5 < w.toInt) → r = -1000001) → (w.toInt = 0 → r = nI (cnt (fun r => ¬ M (2 + 2 * r) 0 = -1) (fun _ => inferInstance) 8)) → (w.toInt = 1 → r = M 20 0) → (w.toInt = 2 → r = nI (cnt (fun r => ¬ M 24 r = 0) (fun _ => inferInstance) n)) → (w.toInt = 3 → r = M 20 1) → (w.toInt = 4 → r = M 41 0) → (w.toInt = 5 → r = M 18 0) → wX8_count M 200 w (fun r2 => r = r2 ∧ cAll S M) := by
    intro r g0 g1 g2 g3 g4 g5 g6
    unfold wX8_count
    refine ⟨fun c => ⟨g0 c, hI⟩, fun c => p8_rowsThere ⟨by rw [g1 c, c1], hI⟩, fun c => ⟨?_, hI⟩, fun c => p8_slewed e8 h12 ⟨by rw [g3 c, c2], hI⟩, fun c => ⟨?_, hI⟩, fun c => ⟨?_, hI⟩, fun c => ⟨?_, hI⟩⟩
    · rw [g2 c, e7]; exact e8.symm
    · rw [g4 c]; exact hI.2.2.2.1.1.2.1.symm
    · rw [g5 c]; exact hI.2.2.2.2.2.1.1
    · rw [g6 c]; exact hI.2.2.1.1
  unfold wX7_count
  refine ⟨fun c => ?_, fun c => p7_rowsThere ?_, fun c => ?_, fun c => p2_slewed (o := 20) e7 h12 ?_, fun c => ?_, fun c => ?_, fun c => ?_⟩
  · exact fin _ (fun _ => rfl) (fun q => by omega) (fun q => by omega) (fun q => by omega) (fun q => by omega) (fun q => by omega) (fun q => by omega)
  · exact fin _ (fun q => by omega) (fun _ => rfl) (fun q => by omega) (fun q => by omega) (fun q => by omega) (fun q => by omega) (fun q => by omega)
  · exact fin _ (fun q => by omega) (fun q => by omega) (fun _ => rfl) (fun q => by omega) (fun q => by omega) (fun q => by omega) (fun q => by omega)
  · exact fin _ (fun q => by omega) (fun q => by omega) (fun q => by omega) (fun _ => rfl) (fun q => by omega) (fun q => by omega) (fun q => by omega)
  · exact fin _ (fun q => by omega) (fun q => by omega) (fun q => by omega) (fun q => by omega) (fun _ => rfl) (fun q => by omega) (fun q => by omega)
  · exact fin _ (fun q => by omega) (fun q => by omega) (fun q => by omega) (fun q => by omega) (fun q => by omega) (fun _ => rfl) (fun q => by omega)
  · exact fin _ (fun q => by omega) (fun q => by omega) (fun q => by omega) (fun q => by omega) (fun q => by omega) (fun q => by omega) (fun _ => rfl)
end PM
