/-! PURE: fits() -/
/-- the frame of what is only foretold -/
theorem all_fore {S : zM → Prop} (hS : sOwn S) {M N : zM} (h : cAll S M) (e : ∀ o, (o < 25 ∨ 30 ≤ o) → (o < 165 ∨ 168 ≤ o) → o ≠ 0 → o ≠ 200 → o ≠ 204 → o ≠ 207 → o ≠ 208 → o ≠ 212 → o ≠ 213 → N o = M o) (hst : N 0 0 = N 200 0) (e2 : N 200 1 = M 200 1 ∧ N 200 2 = M 200 2 ∧ N 200 8 = M 200 8 ∧ N 200 11 = M 200 11) (e3 : N 165 1 = M 165 1 ∧ N 165 2 = M 165 2) : cAll S N := by
  obtain ⟨a, b, c, d, ⟨f0, f1⟩, g, i, j, k⟩ := h
  have E : ∀ o, (0 < o ∧ o < 25) ∨ (30 ≤ o ∧ o < 165) ∨ (168 ≤ o ∧ o < 200) ∨ (200 < o ∧ o < 204) ∨ o = 205 ∨ o = 206 ∨ (208 < o ∧ o < 212) ∨ 213 < o → N o = M o := fun o ho => e o (by omega) (by omega) (by omega) (by omega) (by omega) (by omega) (by omega) (by omega) (by omega)
  exact ⟨fun r hr => cRow_of (a r hr) (by rw [E 201 (by omega)]) (by rw [E 202 (by omega)]) (fun k _ => by rw [E 203 (by omega)]) (E _ (by omega)) (E _ (by omega)), hst, cTape_of c (E _ (by omega)) (E _ (by omega)) e2.1 e2.2.1 (E _ (by omega)), cRail_of d (E _ (by omega)) (E _ (by omega)) (E _ (by omega)) (E _ (by omega)) (E _ (by omega)) (E _ (by omega)), ⟨cImg_of f0 (by rw [E 211 (by omega)]) (fun j hj => E _ (by omega)) (E _ (by omega)), cImg_of f1 (by rw [E 211 (by omega)]) (fun j hj => E _ (by omega)) (E _ (by omega))⟩, cHist_of g e2.2.2.1 (fun o h1 h2 => E o (by omega)) (E _ (by omega)), cAsk_of i (E _ (by omega)) (E _ (by omega)) e2.2.2.2 (E _ (by omega)), cSet_of j e3.1 e3.2, hS M N k (fun o h1 h2 => E o (by omega))⟩
def sB (f g : Nat → Int32) : Nat → Bool
  | 0 => true
  | m + 1 => sB f g m && decide (f m = g m)
theorem sB_t {f g : Nat → Int32} {m : Nat} (h1 : sB f g m = true) (h2 : f m = g m) : sB f g (m + 1) = true := by
  show (sB f g m && decide (f m = g m)) = true
  rw [h1, decide_eq_true h2]; rfl
theorem sB_f {f g : Nat → Int32} {m i : Nat} (hi : i < m) (h2 : ¬ f i = g i) : sB f g m = false := by
  induction m with
  | zero => omega
  | succ m ih =>
    show (sB f g m && decide (f m = g m)) = false
    by_cases c : i = m
    · subst c; rw [decide_eq_false h2, Bool.and_false]
    · rw [ih (by omega), Bool.false_and]
theorem sB_of {f g f' g' : Nat → Int32} {m : Nat} (h1 : ∀ k, k < m → f k = f' k) (h2 : ∀ k, k < m → g k = g' k) : sB f g m = sB f' g' m := by
  induction m with
  | zero => rfl
  | succ m ih =>
    show (sB f g m && decide (f m = g m)) = (sB f' g' m && decide (f' m = g' m))
    rw [ih (fun k hk => h1 k (by omega)) (fun k hk => h2 k (by omega)), h1 m (by omega), h2 m (by omega)]
theorem p3_tellsNow {M : zM} {o o1 n m : Nat} {Q : Int32 → Prop} (hn : M o1 0 = nI n) (h12 : n ≤ 12) (hm : m ≤ n) (h : Q (if sB (M (o + 1)) (fNow n (M (o1 + 2)) (M (o1 + 4))) m = true then 1 else 0)) : wX3_tellsNow M o o1 (nI m) Q := by
  have key : ∀ d i, i + d = m → sB (M (o + 1)) (fNow n (M (o1 + 2)) (M (o1 + 4))) i = true → lpX3_tellsNow_2 M o o1 (nI m) Q (d + 1) (nI i) := by
    intro d
    induction d with
    | zero =>
      intro i hi hs
      obtain rfl : i = m := by omega
      unfold lpX3_tellsNow_2
      exact ⟨fun _ => by rwa [if_pos hs] at h, fun c => absurd (nI_le (Nat.le_refl _) (by omega)) c⟩
    | succ d ih =>
      intro i hi hs
      unfold lpX3_tellsNow_2
      refine ⟨fun c => absurd c (nI_ge (by omega) (by omega)), fun _ => ⟨vp_of (by omega) (by omega), p2_now hn h12 (by omega) ?_⟩⟩
      rw [cl_of (by omega)]
      refine ⟨fun c x7 e7 => ?_, fun c => ?_⟩
      · rw [e7, nI_1]; exact ih (i + 1) (by omega) (sB_t hs c)
      · rwa [if_neg (by rw [sB_f (show i < m by omega) c]; decide)] at h
  exact ⟨m + 1, key m 0 (by omega) rfl⟩
theorem p8_isSeen {M : zM} {r n m : Nat} {Q : Int32 → Prop} (hn : M 208 0 = nI n) (h12 : n ≤ 12) (hm : m ≤ n) (hr : r < 8) (h : Q (if sB (fun k => M 203 (40 * r + k)) (fNow n (rV (M 208)) (rS (M 208))) m = true then 1 else 0)) : wX8_isSeen M 200 (nI r) (nI m) Q := by
  have k0 : sB (fun k => M 203 (40 * r + k)) (fNow n (rV (M 208)) (rS (M 208))) m = false → ∀ d i, i + d = m → lpX8_isSeen_5 M 200 (nI r) (nI m) Q (d + 1) 0 (nI i) := by
    intro hs d
    induction d with
    | zero =>
      intro i hi
      obtain rfl : i = m := by omega
      unfold lpX8_isSeen_5
      exact ⟨fun _ => ⟨rfl, by rwa [if_neg (by rw [hs]; decide)] at h⟩, fun c => absurd (nI_le (Nat.le_refl _) (by omega)) c⟩
    | succ d ih =>
      intro i hi
      unfold lpX8_isSeen_5
      exact ⟨fun c => absurd c (nI_ge (by omega) (by omega)), fun _ => ⟨fun _ x7 e7 => by rw [e7, nI_1]; exact ih (i + 1) (by omega), fun c => absurd rfl c⟩⟩
  have key : ∀ d i, i + d = m → sB (fun k => M 203 (40 * r + k)) (fNow n (rV (M 208)) (rS (M 208))) i = true → lpX8_isSeen_5 M 200 (nI r) (nI m) Q (d + 1) 1 (nI i) := by
    intro d
    induction d with
    | zero =>
      intro i hi hs
      obtain rfl : i = m := by omega
      unfold lpX8_isSeen_5
      exact ⟨fun _ => ⟨rfl, by rwa [if_pos hs] at h⟩, fun c => absurd (nI_le (Nat.le_refl _) (by omega)) c⟩
    | succ d ih =>
      intro i hi hs
      unfold lpX8_isSeen_5
      refine ⟨fun c => absurd c (nI_ge (by omega) (by omega)), fun _ => ⟨fun c => absurd c (by decide), fun _ => p8_nowOf (o := 208) (by omega) (by omega) hn h12 (by omega) ?_⟩⟩
      rw [nI_40, cl_of (by omega)]
      refine ⟨vp_of (by omega) (by omega), fun x9 e9 => ⟨fun c x ex => ?_, fun c x ex => ?_⟩⟩
      · rw [ex, nI_1]
        refine k0 (sB_f (i := i) (by omega) (fun q => c ?_)) d (i + 1) (by omega)
        rw [e9]; exact q.symm
      · rw [ex, nI_1]
        refine ih (i + 1) (by omega) (sB_t hs ?_)
        rw [e9] at c; exact c.symm
  exact ⟨m + 1, key m 0 (by omega) rfl⟩
theorem vI_s (i r : Nat) : nI i - nI r + 1 = nI (i + 1) - nI r := by
  rw [← nI_1, Int32.sub_eq_add_neg, Int32.sub_eq_add_neg, Int32.add_assoc, Int32.add_assoc, Int32.add_comm (-nI r) 1]
theorem vI_m (i r : Nat) : nI (i + 1) - nI r + (-1) = nI i - nI r := by
  rw [← vI_s, Int32.add_assoc, show (1 : Int32) + (-1) = 0 by decide, Int32.add_zero]
theorem vI_int {i r : Nat} (hi : i ≤ 1000) (hr : r ≤ 1000) : (nI i - nI r).toInt = (i : Int) - r := by
  rw [pn_sub (by rw [pn_n (by omega), pn_n (by omega)]; omega) (by rw [pn_n (by omega), pn_n (by omega)]; omega), pn_n (by omega), pn_n (by omega)]
section PF
/-- whether the one of number i fits, and what comes of all -/
def sI (F : Int32 → Nat → Int32) (It : Nat → Int32) (m ρ i : Nat) : Bool := sB It (F (nI (i + 1) - nI ρ)) m
def sBit (F : Int32 → Nat → Int32) (It : Nat → Int32) (m ρ i : Nat) : Int32 := if sI F It m ρ i = true then (1 : Int32) <<< ((nI (i + 1) - nI ρ + 3) &&& 31) else 0
def sCnt (F : Int32 → Nat → Int32) (It : Nat → Int32) (m ρ : Nat) : Nat → Nat
  | 0 => 0
  | i + 1 => if sI F It m ρ i = true then sCnt F It m ρ i + 1 else sCnt F It m ρ i
def sLow (F : Int32 → Nat → Int32) (It : Nat → Int32) (m ρ top : Nat) : Nat → Int32
  | 0 => -1000000
  | d + 1 => if sI F It m ρ (top - 1 - d) = true then nI (top - d) - nI ρ else sLow F It m ρ top d
theorem p8_fitloop {M : zM} {r a m n top ρ pl : Nat} {x4 x14 r15 : Int32} {F : Int32 → Nat → Int32} {P : (Nat → Int32) → Prop} {C : Int32 → Int32 → Int32 → Int32 → zM → Prop} (hr : r < 8) (ha : a < 12) (hm : m ≤ n) (h12 : n ≤ 12) (hpl : ((2 : Int32) + 4 * nI a) + x14 = nI pl) (hpl50 : pl < 50) (hρ : ρ ≤ 4) (htop : top ≤ 61) (hρ1 : 1 ≤ ρ)
    (hlow : (¬ x4 = 0 → (0 : Int32) = nI 1 - nI ρ) ∧ (x4 = 0 → -r15 = nI 1 - nI ρ))
    (hstep : ∀ w v, P w → P (upd w pl v) ∧ (upd w pl v) 0 = nI n ∧ ∀ k, k < n → fNow n (rV (upd w pl v)) (rS (upd w pl v)) k = F v k) (h0 : P (M 208))
    (hC : ∀ (N : zM) (x17 x20 : Int32), (∀ x, x ≠ 208 → N x = M x) → (x4 = 0 → x17 = fAcc (fun a b => a ||| b) (sBit F (fun k => M 203 (40 * r + k)) m ρ) top) → C x17 (nI (sCnt F (fun k => M 203 (40 * r + k)) m ρ top)) (sLow F (fun k => M 203 (40 * r + k)) m ρ top top) x20 N) :
    ∃ fu, lpX8_fits_137 200 (nI a) (nI r) (nI m) x4 x14 r15 C fu 0 0 (-1000000) (nI top - nI ρ) M := by
  obtain ⟨It, hIt⟩ : ∃ It, It = fun k => M 203 (40 * r + k) := ⟨_, rfl⟩
  rw [← hIt] at hC
  have key : ∀ j d, j + d = top → ∀ (N : zM) (x17 x18 : Int32), (∀ x, x ≠ 208 → N x = M x) → P (N 208) → (x4 = 0 → x17 ||| fAcc (fun a b => a ||| b) (sBit F It m ρ) j = fAcc (fun a b => a ||| b) (sBit F It m ρ) top) → x18 + nI (sCnt F It m ρ j) = nI (sCnt F It m ρ top) →
      lpX8_fits_137 200 (nI a) (nI r) (nI m) x4 x14 r15 C (j + 1) x17 x18 (sLow F It m ρ top d) (nI j - nI ρ) N := by
    intro j
    induction j with
    | zero =>
      intro d hd N x17 x18 hN hP hT hc
      obtain rfl : d = top := by omega
      have lt : ∀ x33 : Int32, x33 = nI 1 - nI ρ → nI 0 - nI ρ < x33 := fun x33 e => by
        rw [e, pn_lt, vI_int (by omega) (by omega), vI_int (by omega) (by omega)]; omega
      have e18 : x18 = nI (sCnt F It m ρ d) := by
        have : nI (sCnt F It m ρ 0) = 0 := rfl
        rw [this, Int32.add_zero] at hc; exact hc
      have fin : C x17 x18 (sLow F It m ρ d d) (nI 0 - nI ρ) N := by
        rw [e18]
        refine hC N x17 _ hN (fun q => ?_)
        have := hT q
        rw [show fAcc (fun a b => a ||| b) (sBit F It m ρ) 0 = 0 from rfl, Int32.or_zero] at this
        exact this
      unfold lpX8_fits_137
      refine ⟨fun q => ?_, fun q => ?_⟩
      · unfold jnX8_fits_151
        exact ⟨fun _ => fin, fun c => absurd (lt _ (hlow.1 q)) c⟩
      · unfold jnX8_fits_151
        exact ⟨fun _ => fin, fun c => absurd (lt _ (hlow.2 q)) c⟩
    | succ j ih =>
      intro d hd N x17 x18 hN hP hT hc
      have nlt : ∀ x33 : Int32, x33 = nI 1 - nI ρ → ¬ nI (j + 1) - nI ρ < x33 := fun x33 e => by
        rw [e, pn_lt, vI_int (by omega) (by omega), vI_int (by omega) (by omega)]; omega
      have body : ∀ x33 : Int32, x33 = nI 1 - nI ρ → jnX8_fits_151 200 (nI a) (nI r) (nI m) x4 x14 x17 x18 (sLow F It m ρ top d) (nI (j + 1) - nI ρ) N (lpX8_fits_137 200 (nI a) (nI r) (nI m) x4 x14 r15 C (j + 1)) C x33 := by
        intro x33 e33
        unfold jnX8_fits_151
        refine ⟨fun c => absurd c (nlt x33 e33), fun _ => ?_⟩
        rw [hpl, cl_of (by omega)]
        refine ⟨vp_of hpl50 (by omega), fun N2 e2 => ?_⟩
        have e2 : N2 = va_up N 208 (upd (N 208) pl (nI (j + 1) - nI ρ)) := e2
        have f2 : ∀ x, x ≠ 208 → N2 x = M x := fun x hx => by rw [e2, va_up_ne _ _ hx, hN x hx]
        have n2 : N2 208 = upd (N 208) pl (nI (j + 1) - nI ρ) := by rw [e2, va_up_self]
        obtain ⟨p1, p2, p3⟩ := hstep (N 208) (nI (j + 1) - nI ρ) hP
        refine p8_isSeen (by rw [n2]; exact p2) h12 hm hr ?_
        have es : sB (fun k => N2 203 (40 * r + k)) (fNow n (rV (N2 208)) (rS (N2 208))) m = sI F It m ρ j := by
          unfold sI
          refine sB_of (fun k hk => ?_) (fun k hk => ?_)
          · rw [hIt, f2 203 (by decide)]
          · rw [n2]; exact p3 k (by omega)
        rw [es]
        have lw : top - 1 - d = j := by omega
        have lw2 : top - d = j + 1 := by omega
        have sl : sLow F It m ρ top (d + 1) = if sI F It m ρ j = true then nI (j + 1) - nI ρ else sLow F It m ρ top d := by
          show (if sI F It m ρ (top - 1 - d) = true then nI (top - d) - nI ρ else sLow F It m ρ top d) = _
          rw [lw, lw2]
        have sc : sCnt F It m ρ (j + 1) = if sI F It m ρ j = true then sCnt F It m ρ j + 1 else sCnt F It m ρ j := rfl
        have sT : fAcc (fun a b => a ||| b) (sBit F It m ρ) (j + 1) = fAcc (fun a b => a ||| b) (sBit F It m ρ) j ||| sBit F It m ρ j := rfl
        rw [sT] at hT
        rw [sc] at hc
        by_cases s : sI F It m ρ j = true
        · rw [if_pos s] at sl hc ⊢
          have sb : sBit F It m ρ j = (1 : Int32) <<< ((nI (j + 1) - nI ρ + 3) &&& 31) := by unfold sBit; rw [if_pos s]
          have go : ∀ x37 : Int32, (x4 = 0 → x37 = sBit F It m ρ j) → jnX8_fits_189 x17 x18 (nI (j + 1) - nI ρ) N2 (lpX8_fits_137 200 (nI a) (nI r) (nI m) x4 x14 r15 C (j + 1)) x37 := by
            intro x37 h37 x38 e38 x39 e39
            rw [e39, vI_m, e38, ← sl]
            refine ih (d + 1) (by omega) N2 _ _ f2 (by rw [n2]; exact p1) (fun q => ?_) ?_
            · rw [h37 q, Int32.or_assoc, Int32.or_comm (sBit F It m ρ j)]; exact hT q
            · rw [Int32.add_assoc, Int32.add_comm 1, nI_1]; exact hc
          refine ⟨fun c => absurd c (by decide), fun _ => ⟨fun q => go 0 (fun w => absurd w q), fun q => go _ (fun _ => sb.symm)⟩⟩
        · rw [if_neg s] at sl hc ⊢
          have sb : sBit F It m ρ j = 0 := by unfold sBit; rw [if_neg s]
          refine ⟨fun _ x36 e36 => ?_, fun c => absurd rfl c⟩
          rw [e36, vI_m, ← sl]
          refine ih (d + 1) (by omega) N2 _ _ f2 (by rw [n2]; exact p1) (fun q => ?_) hc
          have := hT q
          rw [sb, Int32.or_zero] at this
          exact this
      unfold lpX8_fits_137
      exact ⟨fun q => body _ (hlow.1 q), fun q => body _ (hlow.2 q)⟩
  refine ⟨top + 1, key top 0 (by omega) M 0 0 (fun _ _ => rfl) h0 (fun _ => Int32.zero_or) (Int32.zero_add _)⟩
end PF
