/-! PURE: fits(), the class's side and both -/
section PF
/-- one array of the draft is tried at a place -/
def tryd (A N : zM) (f a : Nat) : Prop := (∀ x, x ≠ f → N x = A x) ∧ ∀ j, j ≠ a → N f j = A f j
theorem try_up {A N P : zM} {f a : Nat} {v : Int32} (h : tryd A N f a) (e : P = va_up N f (upd (N f) a v)) : tryd A P f a ∧ P f = upd (A f) a v := by
  refine ⟨⟨fun x hx => by rw [e, va_up_ne _ _ hx, h.1 x hx], fun j hj => by rw [e, va_up_self, pk_un hj, h.2 j hj]⟩, ?_⟩
  rw [e, va_up_self]
  funext j
  by_cases c : j = a
  · rw [c, pk_us, pk_us]
  · rw [pk_un c, pk_un c, h.2 j c]
theorem p7_slewsFit {A : zM} {a m n r ρ : Nat} {K V B S It : Nat → Int32} {Q : Int32 → zM → Prop} (hn : A 25 0 = nI n) (h12 : n ≤ 12) (ha : a < n) (hm : m ≤ n) (hr : r < 8) (hV : ∀ k, k < n → A 27 k = V k) (hS : ∀ k, k < n → A 29 k = S k) (hIt : ∀ k, k < m → A (3 + 2 * r) k = It k) (hb : 0 ≤ (A 28 a).toInt ∧ (A 28 a).toInt ≤ 3) (hρ : fReach (A 26) (A 28) a = nI ρ) (h3 : ρ ≤ 3)
    (h : ∀ N : zM, tryd A N 29 a → Q (fAcc (fun a b => a ||| b) (sBit (fun v => fNow n V (upd S a v)) It m (ρ + 1)) (2 * ρ + 1)) N) : wX7_slewsThatFit A 0 (nI a) (2 + 2 * r) (nI m) Q := by
  unfold wX7_slewsThatFit
  refine p2_reach (o := 25) hn h12 ha hb ?_
  rw [show fReach (A (25 + 1)) (A (25 + 3)) a = nI ρ from hρ]
  have key : ∀ d i, i + d = 2 * ρ + 1 → ∀ N : zM, tryd A N 29 a → lpX7_slewsThatFit_18 0 (nI a) (2 + 2 * r) (nI m) (nI ρ) Q (d + 1) (fAcc (fun a b => a ||| b) (sBit (fun v => fNow n V (upd S a v)) It m (ρ + 1)) i) (nI (i + 1) - nI (ρ + 1)) N := by
    intro d
    induction d with
    | zero =>
      intro i hi N hN
      obtain rfl : i = 2 * ρ + 1 := by omega
      unfold lpX7_slewsThatFit_18
      exact ⟨fun _ => h N hN, fun c => absurd (by rw [pn_lt, vI_int (by omega) (by omega), pn_n (by omega)]; omega) c⟩
    | succ d ih =>
      intro i hi N hN
      unfold lpX7_slewsThatFit_18
      refine ⟨fun c => absurd c (by rw [pn_lt, vI_int (by omega) (by omega), pn_n (by omega)]; omega), fun _ => ⟨vp_of (by omega) (by omega), fun P eP => ?_⟩⟩
      rw [cl_of (by omega)] at eP
      obtain ⟨t1, t2⟩ := try_up hN eP
      have hnP : P 25 0 = nI n := by rw [t1.1 25 (by decide)]; exact hn
      refine p3_tellsNow (o1 := 25) hnP h12 hm ?_
      have es : sB (P (2 + 2 * r + 1)) (fNow n (P (25 + 2)) (P (25 + 4))) m = sI (fun v => fNow n V (upd S a v)) It m (ρ + 1) i := by
        unfold sI
        refine sB_of (fun k hk => ?_) (fun k hk => ?_)
        · rw [t1.1 _ (by omega), show 2 + 2 * r + 1 = 3 + 2 * r by omega]; exact hIt k hk
        · refine fNow_of (by omega) (fun j hj => ?_) (fun j hj => ?_)
          · rw [t1.1 (25 + 2) (by decide)]; exact hV j hj
          · show P 29 j = _
            rw [t2]
            by_cases c : j = a
            · rw [c, pk_us, pk_us]
            · rw [pk_un c, pk_un c]; exact hS j hj
      rw [es]
      have sT : fAcc (fun a b => a ||| b) (sBit (fun v => fNow n V (upd S a v)) It m (ρ + 1)) (i + 1) = fAcc (fun a b => a ||| b) (sBit (fun v => fNow n V (upd S a v)) It m (ρ + 1)) i ||| sBit (fun v => fNow n V (upd S a v)) It m (ρ + 1) i := rfl
      have ih := ih (i + 1) (by omega) P t1
      rw [sT] at ih
      by_cases s : sI (fun v => fNow n V (upd S a v)) It m (ρ + 1) i = true
      · rw [if_pos s]
        refine ⟨fun c => absurd c (by decide), fun _ x13 e13 x14 e14 => ?_⟩
        have sb : sBit (fun v => fNow n V (upd S a v)) It m (ρ + 1) i = (1 : Int32) <<< ((nI (i + 1) - nI (ρ + 1) + 3) &&& 31) := by unfold sBit; rw [if_pos s]
        rw [sb] at ih
        rw [e14, vI_s, e13]; exact ih
      · rw [if_neg s]
        refine ⟨fun _ x12 e12 => ?_, fun c => absurd rfl c⟩
        have sb : sBit (fun v => fNow n V (upd S a v)) It m (ρ + 1) i = 0 := by unfold sBit; rw [if_neg s]
        rw [sb, Int32.or_zero] at ih
        rw [e12, vI_s]; exact ih
  refine ⟨2 * ρ + 1 + 1, ?_⟩
  have := key (2 * ρ + 1) 0 (by omega) A ⟨fun _ _ => rfl, fun _ _ => rfl⟩
  rw [show nI (0 + 1) - nI (ρ + 1) = -nI ρ by rw [← nI_1 ρ, pn_eq, Int32.toInt_neg, nI_1, vI_int (by omega) (by omega), pn_n (by omega), pn_bm (by omega) (by omega)]; omega] at this
  exact this
theorem p7_vtry {A P : zM} {a m n r i : Nat} {K V B S It : Nat → Int32} {Q : Int32 → Prop} (hn : A 25 0 = nI n) (h12 : n ≤ 12) (ha : a < n) (hm : m ≤ n) (hr : r < 8) (hV : ∀ k, k < n → A 27 k = V k) (hS : ∀ k, k < n → A 29 k = S k) (hIt : ∀ k, k < m → A (3 + 2 * r) k = It k) (t1 : tryd A P 27 a) (t2 : P 27 = upd (A 27) a (nI i)) (h : Q (if sI (fun v => fNow n (upd V a v) S) It m 1 i = true then 1 else 0)) : wX3_tellsNow P (2 + 2 * r) 25 (nI m) Q := by
  have hnP : P 25 0 = nI n := by rw [t1.1 25 (by decide)]; exact hn
  refine p3_tellsNow (o1 := 25) hnP h12 hm ?_
  have es : sB (P (2 + 2 * r + 1)) (fNow n (P (25 + 2)) (P (25 + 4))) m = sI (fun v => fNow n (upd V a v) S) It m 1 i := by
    unfold sI
    refine sB_of (fun k hk => ?_) (fun k hk => ?_)
    · rw [t1.1 _ (by omega), show 2 + 2 * r + 1 = 3 + 2 * r by omega]; exact hIt k hk
    · refine fNow_of (by omega) (fun j hj => ?_) (fun j hj => ?_)
      · show P 27 j = _
        rw [t2, pk_sub (by omega), show i + 1 - 1 = i by omega]
        by_cases c : j = a
        · rw [c, pk_us, pk_us]
        · rw [pk_un c, pk_un c]; exact hV j hj
      · rw [t1.1 (25 + 4) (by decide)]; exact hS j hj
  rw [es]
  exact h
theorem p7_versFit {A : zM} {a m n r : Nat} {V S It : Nat → Int32} {Q : Int32 → zM → Prop} (hn : A 25 0 = nI n) (h12 : n ≤ 12) (ha : a < n) (hm : m ≤ n) (hr : r < 8) (hV : ∀ k, k < n → A 27 k = V k) (hS : ∀ k, k < n → A 29 k = S k) (hIt : ∀ k, k < m → A (3 + 2 * r) k = It k)
    (h : ∀ N : zM, tryd A N 27 a → Q (nI (sCnt (fun v => fNow n (upd V a v) S) It m 1 61)) N) : wX7_versinesThatFit A 0 (nI a) (2 + 2 * r) (nI m) Q := by
  have key : ∀ d i, i + d = 61 → ∀ N : zM, tryd A N 27 a → lpX7_versinesThatFit_6 0 (nI a) (2 + 2 * r) (nI m) Q (d + 1) (nI (sCnt (fun v => fNow n (upd V a v) S) It m 1 i)) (nI i) N := by
    intro d
    induction d with
    | zero =>
      intro i hi N hN
      obtain rfl : i = 61 := by omega
      unfold lpX7_versinesThatFit_6
      exact ⟨fun _ => h N hN, fun c => absurd (show (60 : Int32) < nI 61 by decide) c⟩
    | succ d ih =>
      intro i hi N hN
      unfold lpX7_versinesThatFit_6
      refine ⟨fun c => absurd c (nI_nlt (a := 60) (b := i) (by omega) (by omega)), fun _ => ⟨vp_of (by omega) (by omega), fun P eP => ?_⟩⟩
      rw [cl_of (by omega)] at eP
      obtain ⟨t1, t2⟩ := try_up hN eP
      have ih := ih (i + 1) (by omega) P t1
      have sc : sCnt (fun v => fNow n (upd V a v) S) It m 1 (i + 1) = if sI (fun v => fNow n (upd V a v) S) It m 1 i = true then sCnt (fun v => fNow n (upd V a v) S) It m 1 i + 1 else sCnt (fun v => fNow n (upd V a v) S) It m 1 i := rfl
      rw [sc] at ih
      refine p7_vtry (K := V) (B := V) hn h12 ha hm hr hV hS hIt t1 t2 ?_
      by_cases s : sI (fun v => fNow n (upd V a v) S) It m 1 i = true
      · rw [if_pos s] at ih ⊢
        exact ⟨fun c => absurd c (by decide), fun _ x12 e12 x13 e13 => by rw [e12, e13, nI_1, nI_1]; exact ih⟩
      · rw [if_neg s] at ih ⊢
        exact ⟨fun _ x e => by rw [e, nI_1]; exact ih, fun c => absurd rfl c⟩
  exact ⟨62, key 61 0 (by omega) A ⟨fun _ _ => rfl, fun _ _ => rfl⟩⟩
theorem p7_leastFit {A : zM} {a m n r : Nat} {V S It : Nat → Int32} {Q : Int32 → zM → Prop} (hn : A 25 0 = nI n) (h12 : n ≤ 12) (ha : a < n) (hm : m ≤ n) (hr : r < 8) (hV : ∀ k, k < n → A 27 k = V k) (hS : ∀ k, k < n → A 29 k = S k) (hIt : ∀ k, k < m → A (3 + 2 * r) k = It k)
    (h : ∀ N : zM, tryd A N 27 a → Q (sLow (fun v => fNow n (upd V a v) S) It m 1 61 61) N) : wX7_leastVersineThatFits A 0 (nI a) (2 + 2 * r) (nI m) Q := by
  have key : ∀ d i, i + d = 61 → ∀ N : zM, tryd A N 27 a → sLow (fun v => fNow n (upd V a v) S) It m 1 61 d = sLow (fun v => fNow n (upd V a v) S) It m 1 61 61 → lpX7_leastVersineThatFits_3 0 (nI a) (2 + 2 * r) (nI m) Q (d + 1) (nI i) N := by
    intro d
    induction d with
    | zero =>
      intro i hi N hN hl
      obtain rfl : i = 61 := by omega
      unfold lpX7_leastVersineThatFits_3
      refine ⟨fun _ => ?_, fun c => absurd (show (60 : Int32) < nI 61 by decide) c⟩
      have := h N hN
      rw [← hl] at this
      exact this
    | succ d ih =>
      intro i hi N hN hl
      unfold lpX7_leastVersineThatFits_3
      refine ⟨fun c => absurd c (nI_nlt (a := 60) (b := i) (by omega) (by omega)), fun _ => ⟨vp_of (by omega) (by omega), fun P eP => ?_⟩⟩
      rw [cl_of (by omega)] at eP
      obtain ⟨t1, t2⟩ := try_up hN eP
      have ih := ih (i + 1) (by omega) P t1
      have sl : sLow (fun v => fNow n (upd V a v) S) It m 1 61 (d + 1) = if sI (fun v => fNow n (upd V a v) S) It m 1 i = true then nI (i + 1) - nI 1 else sLow (fun v => fNow n (upd V a v) S) It m 1 61 d := by
        show (if sI (fun v => fNow n (upd V a v) S) It m 1 (61 - 1 - d) = true then nI (61 - d) - nI 1 else sLow (fun v => fNow n (upd V a v) S) It m 1 61 d) = _
        rw [show 61 - 1 - d = i by omega, show 61 - d = i + 1 by omega]
      rw [sl] at hl
      refine p7_vtry (K := V) (B := V) hn h12 ha hm hr hV hS hIt t1 t2 ?_
      by_cases s : sI (fun v => fNow n (upd V a v) S) It m 1 i = true
      · rw [if_pos s] at hl ⊢
        refine ⟨fun c => absurd c (by decide), fun _ => ?_⟩
        have := h P t1
        rw [← hl, pk_sub (by omega), show i + 1 - 1 = i by omega] at this
        exact this
      · rw [if_neg s] at hl ⊢
        exact ⟨fun _ x e => by rw [e, nI_1]; exact ih hl, fun c => absurd rfl c⟩
  exact ⟨62, key 61 0 (by omega) A ⟨fun _ _ => rfl, fun _ _ => rfl⟩ rfl⟩
end PF
section PF
variable {S : zM → Prop}
theorem row_cpy {M : zM} {o n : Nat} {W : Int32} {K V B S : Nat → Int32} {g : Nat → Int32} (hr : rowOf (M o) n W K V B S) (h12 : n ≤ 12) : rowOf (va_cpy (M o) g 0 0 50) n W K V B S := by
  have q : ∀ i, i < 50 → va_cpy (M o) g 0 0 50 i = M o i := fun i hi => cpy_in hi
  obtain ⟨a, b, c, d, e, f⟩ := hr
  exact ⟨by rw [q 0 (by omega)]; exact a, by rw [q 1 (by omega)]; exact b, fun j hj => (q _ (by omega)).trans (c j hj), fun j hj => (q _ (by omega)).trans (d j hj), fun j hj => (q _ (by omega)).trans (e j hj), fun j hj => (q _ (by omega)).trans (f j hj)⟩
theorem s_fits (hS : sOwn S) : st_fits (fun M _ => cAll S M) := by
  intro M J a b m w hI
  obtain ⟨n, e7, e8, h12, hrn, hn0⟩ := rail_n hI.2.2.2.1
  have hrow : rowOf (M 206) n (M 20 1) (M 21) (M 22) (M 23) (M 24) := row_rel hI.2.2.2.1.1 e7 h12
  unfold wX7_fits
  refine p7_isPeg ?_
  rw [e7]
  refine ⟨fun h => ?_, fun h => p7_isRow ⟨fun h2 => ?_, fun h2 => p7_within ?_⟩⟩
  · unfold wX8_fits
    refine p8_isPeg ?_
    rw [e8]
    exact ⟨fun _ => ⟨rfl, hI⟩, fun q => absurd h q⟩
  · unfold wX8_fits
    refine p8_isPeg ?_
    rw [e8]
    exact ⟨fun q => absurd q h, fun _ => p8_isRow ⟨fun _ => ⟨rfl, hI⟩, fun q => absurd h2 q⟩⟩
  have hn8 : M (200 + 6) (0 : Int32).toNatClampNeg = nI n := e8
  refine ⟨fun h3 => ?_, fun h3 => p7_within ⟨fun h4 => ?_, fun h4 => ?_⟩⟩
  · unfold wX8_fits
    refine p8_isPeg ?_
    rw [e8]
    refine ⟨fun q => absurd q h, fun _ => p8_isRow ⟨fun q => absurd q h2, fun _ => p8_in ?_⟩⟩
    rw [hn8]
    exact ⟨fun _ => ⟨rfl, hI⟩, fun q => absurd h3 q⟩
  · obtain ⟨k, hk, rfl⟩ := zin_nat (by omega) h
    obtain ⟨r, hr, rfl⟩ := zin_lit (n := 7) rfl h2
    obtain ⟨g3, -, hok⟩ := rail_pos hI.2.2.2.1 e7 h12 (by omega)
    obtain ⟨v1, v2⟩ := zin_in h3
    rw [t1] at v1
    rw [pn_n (by omega)] at v2
    obtain ⟨l, hl⟩ : ∃ l : Nat, l = m.toInt.toNat := ⟨_, rfl⟩
    have em : m = nI l := by rw [hl]; exact pn_of (by omega)
    subst em
    have hln : l ≤ n := by omega
    obtain ⟨t, ht, rfl⟩ := zin_lit (n := 2) rfl h4
    have ref : ∀ M1 : zM, (∀ o, (0 < o ∧ o < 25) ∨ 30 ≤ o → M1 o = M o) → ∀ Q : Int32 → zM → Prop, (M 201 r = -1000000 → wX8_found M1 200 1 Q) → (¬ M 201 r = -1000000 → (zhold (M 202 r) 0 (nI l) = 0 → wX8_found M1 200 2 Q) ∧ (¬ zhold (M 202 r) 0 (nI l) = 0 → (¬ nI t = 0 → jnX8_fits_100 200 (nI k) (nI r) (nI l) (nI t) (va_up M1 208 (va_cpy (M1 206) (M1 208) 0 0 50)) Q 1) ∧ (nI t = 0 → jnX8_fits_100 200 (nI k) (nI r) (nI l) (nI t) (va_up M1 208 (va_cpy (M1 206) (M1 208) 0 0 50)) Q 3))) → wX8_fits M1 200 (nI k) (nI r) (nI l) (nI t) Q := by
      intro M1 e Q f1 f2
      unfold wX8_fits
      refine p8_isPeg ?_
      rw [e 206 (by omega), e8]
      refine ⟨fun q => absurd q h, fun _ => p8_isRow ⟨fun q => absurd q h2, fun _ => p8_in ?_⟩⟩
      rw [hn8]
      refine ⟨fun q => absurd q h3, fun _ => p8_in ⟨fun _ => p8_isMissing (by omega) ?_, fun q => absurd q h4⟩⟩
      rw [e 201 (by omega)]
      by_cases c : M 201 r = -1000000
      · rw [if_pos c]; exact ⟨fun q => absurd q (by decide), fun _ => f1 c⟩
      · rw [if_neg c]
        refine ⟨fun _ => p8_isPart (by omega) ?_, fun q => absurd rfl q⟩
        rw [e 202 (by omega)]
        exact ⟨fun d => p8_copies (a := 0) (b := 0) (by decide) (by omega) (by omega) (by omega) (by omega) ((f2 c).2 d), fun d => (f2 c).1 d⟩
    have e0 : ∀ M1 : zM, (∀ o, o ≠ 0 → M1 o = M o) → ∀ o, (0 < o ∧ o < 25) ∨ 30 ≤ o → M1 o = M o := fun M1 e o h1 => e o (by omega)
    refine ⟨vp_of (by omega) (by omega), p3_isMissing ?_⟩
    rw [cl_of (by omega), show 0 + 1 + 1 + 2 * r = 2 + 2 * r by omega]
    rcases row_cases hI.1 (show r < 8 by omega) with ⟨q1, q2⟩ | ⟨q1, q2, q3, q4, q5, q6, q7⟩
    · rw [if_pos q2]
      exact ⟨fun c => absurd c (by decide), fun _ => both_found (P := fun r1 M1 Q => wX8_fits M1 200 (nI k) (nI r) (nI l) (nI t) Q) hS hI (fun M1 e Q hQ => ref M1 (e0 M1 e) Q (fun _ => hQ) (fun q => absurd q1 q))⟩
    · rw [if_neg q2]
      refine ⟨fun _ => p3_holds ?_, fun c => absurd rfl c⟩
      rw [← q5]
      refine ⟨fun c => ?_, fun c => both_found (P := fun r1 M1 Q => wX8_fits M1 200 (nI k) (nI r) (nI l) (nI t) Q) hS hI (fun M1 e Q hQ => ref M1 (e0 M1 e) Q (fun q => absurd q q1) (fun _ => ⟨fun _ => hQ, fun q => absurd c q⟩))⟩
      refine p2_become (o0 := 25) (o1 := 20) e7 h12 (by omega) (fun A hA => ?_)
      have fA : ∀ o, (o < 25 ∨ 30 ≤ o) → A o = M o := fun o ho => hA.1 o (by omega)
      have hnA : A 25 0 = nI n := hA.2.1.trans e7
      have hVA : ∀ j, j < n → A 27 j = M 22 j := fun j hj => (hA.2.2.2 j hj).2.1
      have hSA : ∀ j, j < n → A 29 j = M 24 j := fun j hj => (hA.2.2.2 j hj).2.2.2
      have hBA : ∀ j, j < n → A 28 j = M 23 j := fun j hj => (hA.2.2.2 j hj).2.2.1
      have hKA : ∀ j, j < n → A 26 j = M 21 j := fun j hj => (hA.2.2.2 j hj).1
      have hb := (hok k hk).2.2.1
      have hIt : ∀ j, j < l → A (3 + 2 * r) j = M 203 (40 * r + j) := fun j hj => by rw [fA _ (by omega)]; exact (q7 j (by omega)).symm
      obtain ⟨ρ, hρ3, hρ⟩ := reach_n (K := M 21) (B := M 23) (k := k) hb.1 hb.2
      have hρA : fReach (A 26) (A 28) k = nI ρ := by rw [fReach_of hk hKA hBA]; exact hρ
      -- the end on both sides
      have fin : ∀ (N1 : zM) (x : Int32), (∀ o, (o < 25 ∨ 30 ≤ o) → N1 o = M o) → (t = 0 → x = fAcc (fun a b => a ||| b) (sBit (fun v => fNow n (M 22) (upd (M 24) k v)) (fun j => M 203 (40 * r + j)) l (ρ + 1)) (2 * ρ + 1)) → (t = 1 → x = nI (sCnt (fun v => fNow n (upd (M 22) k v) (M 24)) (fun j => M 203 (40 * r + j)) l 1 61)) → (t = 2 → x = sLow (fun v => fNow n (upd (M 22) k v) (M 24)) (fun j => M 203 (40 * r + j)) l 1 61 61) → wX7_fine N1 0 x (fun r1 M1 => wX8_fits M1 200 (nI k) (nI r) (nI l) (nI t) (fun r2 M2 => r1 = r2 ∧ cAll S M2)) := by
        intro N1 x fN1 x0 x1 x2 M1 e1
        have f1 : ∀ o, (0 < o ∧ o < 25) ∨ 30 ≤ o → M1 o = M o := fun o ho => by rw [e1, va_up_ne _ _ (by omega), fN1 o (by omega)]
        refine ref M1 f1 _ (fun q => absurd q q1) (fun _ => ⟨fun q => absurd q c, fun _ => ?_⟩)
        have c208 : rowOf (va_up M1 208 (va_cpy (M1 206) (M1 208) 0 0 50) 208) n (M 20 1) (M 21) (M 22) (M 23) (M 24) := by
          rw [va_up_self, f1 206 (by omega)]; exact row_cpy hrow h12
        have c206 : rowOf (va_up M1 208 (va_cpy (M1 206) (M1 208) 0 0 50) 206) n (M 20 1) (M 21) (M 22) (M 23) (M 24) := by
          rw [va_up_ne _ _ (by decide), f1 206 (by omega)]; exact hrow
        have c203 : (fun j => va_up M1 208 (va_cpy (M1 206) (M1 208) 0 0 50) 203 (40 * r + j)) = (fun j => M 203 (40 * r + j)) := by
          funext j; rw [va_up_ne _ _ (by decide), f1 203 (by omega)]
        have last : ∀ (N x20 : zM) (y : Int32), x = y → (∀ o, o ≠ 208 → N o = va_up M1 208 (va_cpy (M1 206) (M1 208) 0 0 50) o) → wX8_well N 200 y (fun r2 M2 => x = r2 ∧ cAll S M2) := by
          intro N _ y ey hN N2 e2
          have g : ∀ o, (0 < o ∧ o < 25) ∨ (30 ≤ o ∧ o ≠ 200 ∧ o ≠ 208) → N2 o = M o := fun o ho => by rw [e2, va_up_ne _ _ (by omega), hN o (by omega), va_up_ne _ _ (by omega), f1 o (by omega)]
          have n200 : N2 200 = upd (M 200) 0 0 := by rw [e2, va_up_self, hN 200 (by decide), va_up_ne _ _ (by decide), f1 200 (by omega)]
          refine ⟨ey, all_fore hS hI (fun o h1 h2 h3 h4 h5 h6 h7 h8 h9 => g o (by omega)) ?_ ?_ ?_⟩
          · rw [n200, pk_us, e2, va_up_ne _ _ (by decide), hN 0 (by decide), va_up_ne _ _ (by decide), e1, va_up_self, pk_us]
          · rw [n200, pk_un (by decide), pk_un (by decide), pk_un (by decide), pk_un (by decide)]; exact ⟨rfl, rfl, rfl, rfl⟩
          · rw [g 165 (by omega)]; exact ⟨rfl, rfl⟩
        refine ⟨fun z => ?_, fun z => ?_⟩
        · have tz : ¬ t = 0 := fun q => z (by rw [q]; rfl)
          unfold jnX8_fits_100
          refine p8_reach (o := 206) (by omega) (by omega) (by omega) ⟨fun _ => ?_, fun q => absurd q z⟩
          unfold jnX8_fits_135
          have := p8_fitloop (M := va_up M1 208 (va_cpy (M1 206) (M1 208) 0 0 50)) (r := r) (a := k) (m := l) (n := n) (top := 61) (ρ := 1) (pl := 3 + 4 * k) (x4 := nI t) (x14 := 1) (r15 := fReach (rK (va_up M1 208 (va_cpy (M1 206) (M1 208) 0 0 50) 206)) (rB (va_up M1 208 (va_cpy (M1 206) (M1 208) 0 0 50) 206)) k) (F := fun v => fNow n (upd (M 22) k v) (M 24)) (P := fun w => ∃ u, rowOf w n (M 20 1) (M 21) (upd (M 22) k u) (M 23) (M 24)) (C := fun x22 x23 x24 x25 M26 =>
    ((¬ nI t = 0) → (
    ((¬ nI t = (1 : Int32)) → (
    wX8_well M26 200 x24 (fun r27 M28 =>
    (fun r2 M2 => x = r2 ∧ cAll S M2) r27 M28))) ∧
    ((nI t = (1 : Int32)) → (
    wX8_well M26 200 x23 (fun r29 M30 =>
    (fun r2 M2 => x = r2 ∧ cAll S M2) r29 M30))))) ∧
    ((nI t = 0) → (
    wX8_well M26 200 x22 (fun r31 M32 =>
    (fun r2 M2 => x = r2 ∧ cAll S M2) r31 M32)))) (by omega) (by omega) hln h12 (by rw [show (1 : Int32) = nI 1 from rfl, nI_4c, show 2 + 4 * k + 1 = 3 + 4 * k by omega]) (by omega) (by omega) (by omega) (by omega) ⟨fun _ => by decide, fun q => absurd q z⟩ (fun w v ⟨u, hu⟩ => by
              have hv := row_V (k := k) (v := v) hu
              rw [upd_2] at hv
              exact ⟨⟨v, hv⟩, hv.1, fun j hj => fNow_of hj hv.2.2.2.1 hv.2.2.2.2.2⟩) ⟨M 22 k, by rw [upd_id]; exact c208⟩ (fun N x17 x20 hN _ => by
              rw [c203]
              refine ⟨fun _ => ⟨fun z1 => ?_, fun z1 => ?_⟩, fun q => absurd q z⟩
              · have : t = 2 := by
                  have : ¬ t = 1 := fun q => z1 (by rw [q]; rfl)
                  omega
                exact last N N _ (x2 this) hN
              · have : t = 1 := (nI_eq (b := 1) (by omega) (by omega)).1 z1
                exact last N N _ (x1 this) hN)
          exact this
        · have tz : t = 0 := (nI_eq (b := 0) (by omega) (by omega)).1 z
          subst tz
          unfold jnX8_fits_100
          refine p8_reach (o := 206) (by omega) (by omega) (by omega) ⟨fun q => absurd rfl q, fun _ => ?_⟩
          rw [fReach_of hk c206.2.2.1 c206.2.2.2.2.1, hρ]
          unfold jnX8_fits_135
          have := p8_fitloop (M := va_up M1 208 (va_cpy (M1 206) (M1 208) 0 0 50)) (r := r) (a := k) (m := l) (n := n) (top := 2 * ρ + 1) (ρ := ρ + 1) (pl := 5 + 4 * k) (x4 := nI 0) (x14 := 3) (r15 := nI ρ) (F := fun v => fNow n (M 22) (upd (M 24) k v)) (P := fun w => ∃ u, rowOf w n (M 20 1) (M 21) (M 22) (M 23) (upd (M 24) k u)) (C := fun x22 x23 x24 x25 M26 =>
    ((¬ nI 0 = 0) → (
    ((¬ nI 0 = (1 : Int32)) → (
    wX8_well M26 200 x24 (fun r27 M28 =>
    (fun r2 M2 => x = r2 ∧ cAll S M2) r27 M28))) ∧
    ((nI 0 = (1 : Int32)) → (
    wX8_well M26 200 x23 (fun r29 M30 =>
    (fun r2 M2 => x = r2 ∧ cAll S M2) r29 M30))))) ∧
    ((nI 0 = 0) → (
    wX8_well M26 200 x22 (fun r31 M32 =>
    (fun r2 M2 => x = r2 ∧ cAll S M2) r31 M32)))) (by omega) (by omega) hln h12 (by rw [show (3 : Int32) = nI 3 from rfl, nI_4c, show 2 + 4 * k + 3 = 5 + 4 * k by omega]) (by omega) (by omega) (by omega) (by omega) ⟨fun q => absurd rfl q, fun _ => by rw [pn_eq, Int32.toInt_neg, vI_int (by omega) (by omega), pn_n (by omega), pn_bm (by omega) (by omega)]; omega⟩ (fun w v ⟨u, hu⟩ => by
              have hv := row_S (k := k) (v := v) hu
              rw [upd_2] at hv
              exact ⟨⟨v, hv⟩, hv.1, fun j hj => fNow_of hj hv.2.2.2.1 hv.2.2.2.2.2⟩) ⟨M 24 k, by rw [upd_id]; exact c208⟩ (fun N x17 x20 hN hx => by
              rw [c203] at hx
              exact ⟨fun q => absurd rfl q, fun _ => last N N _ (by rw [x0 rfl, hx rfl]) hN⟩)
          rw [show nI (2 * ρ + 1) - nI (ρ + 1) = nI ρ by rw [pk_sub (by omega)]; congr 1; omega] at this
          exact this
      refine ⟨fun z => ⟨fun z1 => p7_leastFit hnA h12 hk hln (by omega) hVA hSA hIt (fun N hN => fin N _ (fun o ho => by rw [hN.1 o (by omega), fA o ho]) ?_ ?_ ?_), fun z1 => p7_versFit hnA h12 hk hln (by omega) hVA hSA hIt (fun N hN => fin N _ (fun o ho => by rw [hN.1 o (by omega), fA o ho]) ?_ ?_ ?_)⟩, fun z => p7_slewsFit (K := M 21) (B := M 23) hnA h12 hk hln (by omega) hVA hSA hIt (by rw [hBA k hk]; exact hb) hρA hρ3 (fun N hN => fin N _ (fun o ho => by rw [hN.1 o (by omega), fA o ho]) ?_ ?_ ?_)⟩
      · exact fun q => absurd (by rw [q]; rfl) z
      · exact fun q => absurd (by rw [q]; rfl) z1
      · exact fun _ => rfl
      · exact fun q => absurd (by rw [q]; rfl) z
      · exact fun _ => rfl
      · intro q; rw [q] at z1; exact absurd z1 (by decide)
      · exact fun _ => rfl
      · intro q; rw [q] at z; exact absurd z (by decide)
      · intro q; rw [q] at z; exact absurd z (by decide)
  · unfold wX8_fits
    refine p8_isPeg ?_
    rw [e8]
    refine ⟨fun q => absurd q h, fun _ => p8_isRow ⟨fun q => absurd q h2, fun _ => p8_in ?_⟩⟩
    rw [hn8]
    exact ⟨fun q => absurd q h3, fun _ => p8_in ⟨fun q => absurd h4 q, fun _ => ⟨rfl, hI⟩⟩⟩
end PF
