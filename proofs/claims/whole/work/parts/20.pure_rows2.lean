/-! PURE: rows, further -/
theorem nI_40 (r k : Nat) : (40 : Int32) * nI r + nI k = nI (40 * r + k) := by
  rw [show (40 : Int32) = nI 40 from rfl, pk_mul, nI_add]
def zfil (f : Nat → Int32) (a n : Nat) : Nat → Int32 := fun j => if a ≤ j ∧ j < a + n then 0 else f j
theorem zfil_0 (f : Nat → Int32) (a : Nat) : zfil f a 0 = f := by funext j; unfold zfil; rw [if_neg (by omega)]
theorem zfil_s (f : Nat → Int32) (a n : Nat) : upd (zfil f a n) (a + n) 0 = zfil f a (n + 1) := by
  funext j
  unfold upd zfil
  by_cases h : j = a + n
  · rw [if_pos h, if_pos (by omega)]
  · rw [if_neg h]
    by_cases h2 : a ≤ j ∧ j < a + n
    · rw [if_pos h2, if_pos (by omega)]
    · rw [if_neg h2, if_neg (by omega)]
theorem p8_rowloop {M : zM} {r : Nat} {n : Int32} {Q : Int32 → zM → Prop} (hr : r < 8) (h : wX8_well (va_up M 203 (zfil (M 203) (40 * r) 40)) 200 n Q) : ∃ fu, lpX8_row_52 200 (nI r) n Q fu 0 M := by
  have key : ∀ d i, i + d = 40 → lpX8_row_52 200 (nI r) n Q (d + 1) (nI i) (va_up M 203 (zfil (M 203) (40 * r) i)) := by
    intro d
    induction d with
    | zero =>
      intro i hi
      obtain rfl : i = 40 := by omega
      unfold lpX8_row_52
      exact ⟨fun _ => h, fun c => absurd (show (40 : Int32) ≤ nI 40 from by decide) c⟩
    | succ d ih =>
      intro i hi
      unfold lpX8_row_52
      refine ⟨fun c => absurd c (nI_ge (a := i) (b := 40) (by omega) (by decide)), fun _ => ?_⟩
      rw [nI_40]
      refine ⟨vp_of (by omega) (by omega), ?_⟩
      intro M8 e8 x9 e9
      have f8 : M8 = va_up M 203 (zfil (M 203) (40 * r) (i + 1)) := by
        rw [e8, cl_of (by omega)]
        show va_up (va_up M 203 _) 203 (upd (va_up M 203 _ 203) _ _) = _
        rw [va_up_self, up_up, zfil_s]
      rw [e9, nI_1, f8]
      exact ih (i + 1) (by omega)
  refine ⟨41, ?_⟩
  have := key 40 0 rfl
  rw [zfil_0, up_id] at this
  exact this
section PR
variable {S : zM → Prop}
theorem s_row (hS : sOwn S) : st_row (fun M _ => cAll S M) := by
  intro M J a l n hI
  unfold wX7_row
  refine p7_isRow ⟨fun h => ?_, fun h => p7_within ⟨fun h2 => ?_, fun h2 => ⟨fun h3 => ⟨fun h4 => ?_, fun h4 => ?_⟩, fun h3 => ?_⟩⟩⟩
  · unfold wX8_row
    exact p8_isRow ⟨fun _ => ⟨rfl, hI⟩, fun c => absurd h c⟩
  · unfold wX8_row
    exact p8_isRow ⟨fun c => absurd c h, fun _ => p8_in ⟨fun _ => ⟨rfl, hI⟩, fun c => absurd h2 c⟩⟩
  · obtain ⟨r, hr, rfl⟩ := zin_lit (n := 7) rfl h
    obtain ⟨l1, l2⟩ := zin_in h2
    rw [show (0 : Int32).toInt = 0 from rfl] at l1
    rw [show (2 : Int32).toInt = 2 from rfl] at l2
    have n1 : 0 ≤ n.toInt := by have := pn_le.1 h4; rwa [show (0 : Int32).toInt = 0 from rfl] at this
    have n2 : n.toInt ≤ 40 := by have := pn_le.1 h3; rwa [show (40 : Int32).toInt = 40 from rfl] at this
    refine ⟨vp_of (by omega) (by omega), ?_⟩
    rw [cl_of (by omega), show 0 + 1 + 1 + 2 * r = 2 + 2 * r by omega]
    intro M5 e5 M6 e6
    refine pJ_fill (by omega) ?_
    intro M8 e8
    have f6 : ∀ o, o ≠ 2 + 2 * r → M6 o = M o := fun o ho => by rw [e6, va_up_ne _ _ ho, e5, va_up_ne _ _ ho]
    have f8 : ∀ o, o ≠ 0 → o ≠ 2 + 2 * r → o ≠ 3 + 2 * r → M8 o = M o := fun o h1 h2 h3 => by rw [e8, va_up_ne _ _ h1, va_up_ne _ _ (by omega), f6 o h2]
    have c0 : M8 (2 + 2 * r) 0 = l := by rw [e8, va_up_ne _ _ (by omega), va_up_ne _ _ (by omega), e6, va_up_self, pk_un (by decide), e5, va_up_self, pk_us]
    have c1 : M8 (2 + 2 * r) 1 = n := by rw [e8, va_up_ne _ _ (by omega), va_up_ne _ _ (by omega), e6, va_up_self, pk_us]
    have c2 : ∀ k, k < 40 → M8 (3 + 2 * r) k = 0 := fun k hk => by rw [e8, va_up_ne _ _ (by omega), show 3 + 2 * r = 2 + 2 * r + 1 by omega, va_up_self]; exact if_pos hk
    unfold wX8_row
    refine p8_isRow ⟨fun c => absurd c h, fun _ => p8_in ⟨fun c => absurd c h2, fun _ => ⟨fun _ => ⟨fun _ => ⟨vp_of (by omega) (by omega), ?_⟩, fun c => absurd h4 c⟩, fun c => absurd h3 c⟩⟩⟩
    intro M9 e9
    refine ⟨vp_of (by omega) (by omega), ?_⟩
    intro M10 e10
    rw [cl_of (by omega)] at e9 e10
    have g9 : M9 = va_up M8 201 (upd (M8 201) r l) := e9
    have g10 : M10 = va_up M9 202 (upd (M9 202) r n) := e10
    refine p8_rowloop (by omega) ?_
    intro M11 e11
    have k10 : ∀ o, o ≠ 201 → o ≠ 202 → M10 o = M8 o := fun o h1 h2 => by rw [g10, va_up_ne _ _ h2, g9, va_up_ne _ _ h1]
    have k11 : ∀ o, o ≠ 200 → o ≠ 201 → o ≠ 202 → o ≠ 203 → M11 o = M8 o := fun o h1 h2 h3 h4 => by rw [e11, va_up_ne _ _ h1, va_up_ne _ _ h4, k10 o h2 h3]
    have m201 : M11 201 = upd (M 201) r l := by rw [e11, va_up_ne _ _ (by decide), va_up_ne _ _ (by decide), g10, va_up_ne _ _ (by decide), g9, va_up_self, f8 201 (by decide) (by omega) (by omega)]
    have m202 : M11 202 = upd (M 202) r n := by rw [e11, va_up_ne _ _ (by decide), va_up_ne _ _ (by decide), g10, va_up_self, g9, va_up_ne _ _ (by decide), f8 202 (by decide) (by omega) (by omega)]
    have m203 : M11 203 = zfil (M 203) (40 * r) 40 := by rw [e11, va_up_ne _ _ (by decide), va_up_self, k10 203 (by decide) (by decide), f8 203 (by decide) (by omega) (by omega)]
    refine ⟨rfl, all_row hS hI (show r < 8 by omega) (fun o h1 h2 h3 h4 h5 h6 h7 _ => by rw [k11 o h2 h5 h6 h7, f8 o h1 h3 h4]) ?_ ?_ ?_ ?_⟩
    · intro k hk
      rw [e11, va_up_self, pk_un hk, va_up_ne _ _ (by decide), k10 200 (by decide) (by decide), f8 200 (by decide) (by omega) (by omega)]
    · rw [k11 0 (by decide) (by decide) (by decide) (by decide), e8, va_up_self, pk_us, e11, va_up_self, pk_us]
    · right
      rw [m201, m202, m203, pk_us, pk_us, k11 (2 + 2 * r) (by omega) (by omega) (by omega) (by omega), k11 (3 + 2 * r) (by omega) (by omega) (by omega) (by omega), c0, c1]
      refine ⟨rfl, ⟨l1, l2⟩, rfl, ⟨n1, n2⟩, fun k hk => ?_⟩
      rw [c2 k hk]
      exact if_pos ⟨by omega, by omega⟩
    · intro q hq hqr
      rw [m201, m202, m203, pk_un hqr, pk_un hqr]
      refine ⟨rfl, rfl, fun k hk => ?_⟩
      exact if_neg (by omega)
  · refine both_found (P := fun r1 M1 Q => wX8_row M1 200 a l n Q) hS hI ?_
    intro M1 e Q hQ
    unfold wX8_row
    exact p8_isRow ⟨fun c => absurd c h, fun _ => p8_in ⟨fun c => absurd c h2, fun _ => ⟨fun _ => ⟨fun c => absurd c h4, fun _ => hQ⟩, fun c => absurd h3 c⟩⟩⟩
  · unfold wX8_row
    exact p8_isRow ⟨fun c => absurd c h, fun _ => p8_in ⟨fun c => absurd c h2, fun _ => ⟨fun c => absurd c h3, fun _ => ⟨rfl, hI⟩⟩⟩⟩
/-- a place of a row, as set() asks -/
theorem hold1 {sz i : Int32} (h0 : 0 ≤ sz.toInt) (h1 : sz.toInt ≤ 40) : (zhold sz i 1 = 0 ↔ zin i 0 (sz - 1) = 0) ∧ (¬ zhold sz i 1 = 0 → ∃ k : Nat, (k : Int) < sz.toInt ∧ i = nI k) := by
  have e0 : (0 : Int32).toInt = 0 := rfl
  have e1 : (1 : Int32).toInt = 1 := rfl
  have es : (sz - 1).toInt = sz.toInt - 1 := by rw [pn_sub (by rw [e1]; omega) (by rw [e1]; omega), e1]
  have key : zhold sz i 1 = 0 ↔ (i.toInt < 0 ∨ sz.toInt ≤ i.toInt) := by
    unfold zhold
    by_cases c1 : i < 0
    · rw [if_pos c1]; rw [pn_lt, e0] at c1; simp [c1]
    · rw [if_neg c1, if_neg (by decide)]
      rw [pn_lt, e0] at c1
      by_cases c2 : sz < i
      · rw [if_pos c2]; rw [pn_lt] at c2; simp; omega
      · rw [if_neg c2]
        rw [pn_lt] at c2
        have e2 : (sz - i).toInt = sz.toInt - i.toInt := pn_sub (by omega) (by omega)
        by_cases c3 : sz - i < 1
        · rw [if_pos c3]; rw [pn_lt, e2, e1] at c3; simp; omega
        · rw [if_neg c3]; rw [pn_lt, e2, e1] at c3; simp; omega
  refine ⟨?_, fun h => ?_⟩
  · rw [key, zin_0, pn_lt, pn_lt, e0, es]; omega
  · have h2 : ¬ (i.toInt < 0 ∨ sz.toInt ≤ i.toInt) := fun q => h (key.2 q)
    exact ⟨i.toInt.toNat, by omega, pn_of (by omega)⟩
theorem s_set (hS : sOwn S) : st_set (fun M _ => cAll S M) := by
  intro M J a i v hI
  unfold wX7_set
  refine p7_isRow ⟨fun h => ?_, fun h => ?_⟩
  · obtain ⟨r, hr, rfl⟩ := zin_lit (n := 7) rfl h
    refine ⟨vp_of (by omega) (by omega), p3_isMissing ?_⟩
    rw [cl_of (by omega), show 0 + 1 + 1 + 2 * r = 2 + 2 * r by omega]
    rcases row_cases hI.1 (show r < 8 by omega) with ⟨q1, q2⟩ | ⟨q1, q2, q3, q4, q5, q6, q7⟩
    · rw [if_pos q2]
      refine ⟨fun c => absurd c (by decide), fun _ => both_found (P := fun r1 M1 Q => wX8_set M1 200 (nI r) i v Q) hS hI ?_⟩
      intro M1 e Q hQ
      unfold wX8_set
      refine p8_isRow ⟨fun _ => p8_isMissing (by omega) ?_, fun c => absurd c h⟩
      rw [e 201 (by decide), if_pos q1]
      exact ⟨fun c => absurd c (by decide), fun _ => hQ⟩
    · rw [if_neg q2]
      refine ⟨fun _ => p3_holds ?_, fun c => absurd rfl c⟩
      have q6' : 0 ≤ (M (2 + 2 * r) 1).toInt ∧ (M (2 + 2 * r) 1).toInt ≤ 40 := by rw [← q5]; exact q6
      obtain ⟨hz, hk⟩ := hold1 (i := i) q6'.1 q6'.2
      refine ⟨fun hp => ?_, fun hp => both_found (P := fun r1 M1 Q => wX8_set M1 200 (nI r) i v Q) hS hI ?_⟩
      · obtain ⟨k, hk1, rfl⟩ := hk hp
        refine p3_put (by omega) ?_
        intro M3 e3
        have f3 : ∀ o, o ≠ 0 → o ≠ 3 + 2 * r → M3 o = M o := fun o h1 h2 => by rw [e3, va_up_ne _ _ h1, va_up_ne _ _ (by omega)]
        have c3 : M3 (3 + 2 * r) = upd (M (3 + 2 * r)) k (zlow (M (2 + 2 * r) 0) v) := by rw [e3, va_up_ne _ _ (by omega), show 3 + 2 * r = 2 + 2 * r + 1 by omega, va_up_self]
        unfold wX8_set
        refine p8_isRow ⟨fun _ => p8_isMissing (by omega) ?_, fun c => absurd c h⟩
        rw [f3 201 (by decide) (by omega), if_neg q1]
        refine ⟨fun _ => ⟨vp_of (by omega) (by omega), p8_in ?_⟩, fun c => absurd rfl c⟩
        rw [cl_of (by omega), show M3 (200 + 2) r = M (2 + 2 * r) 1 by rw [f3 202 (by decide) (by omega)]; exact q5]
        refine ⟨fun _ => ⟨vp_of (by omega) (by omega), p8_lowest ?_⟩, fun c => absurd (hz.2 c) hp⟩
        rw [q3, nI_40]
        refine ⟨vp_of (by omega) (by omega), ?_⟩
        intro M4 e4
        rw [cl_of (by omega)] at e4
        have g4 : M4 = va_up M3 203 (upd (M3 203) (40 * r + k) (zlow (M (2 + 2 * r) 0) v)) := e4
        refine ⟨vp_of (by omega) (by omega), ?_⟩
        intro x ex M5 e5
        rw [cl_of (by omega)] at ex
        have k5 : ∀ o, o ≠ 200 → o ≠ 203 → M5 o = M3 o := fun o h1 h2 => by rw [e5, va_up_ne _ _ h1, g4, va_up_ne _ _ h2]
        have m203 : M5 203 = upd (M 203) (40 * r + k) (zlow (M (2 + 2 * r) 0) v) := by rw [e5, va_up_ne _ _ (by decide), g4, va_up_self, f3 203 (by decide) (by omega)]
        refine ⟨?_, all_row hS hI (show r < 8 by omega) (fun o h1 h2 _ h4 _ _ h7 _ => by rw [k5 o h2 h7, f3 o h1 h4]) ?_ ?_ ?_ ?_⟩
        · rw [ex]
          show _ = M4 203 (40 * r + k)
          rw [g4, va_up_self, pk_us]
        · intro j hj
          rw [e5, va_up_self, pk_un hj, g4, va_up_ne _ _ (by decide), f3 200 (by decide) (by omega)]
        · rw [k5 0 (by decide) (by decide), e3, va_up_self, pk_us, e5, va_up_self, pk_us]
        · right
          rw [m203, k5 201 (by decide) (by decide), k5 202 (by decide) (by decide), k5 (2 + 2 * r) (by omega) (by omega), k5 (3 + 2 * r) (by omega) (by omega), f3 201 (by decide) (by omega), f3 202 (by decide) (by omega), f3 (2 + 2 * r) (by omega) (by omega), c3]
          refine ⟨q3, q4, q5, q6, fun j hj => ?_⟩
          by_cases hjk : j = k
          · rw [hjk, pk_us, pk_us]
          · rw [pk_un hjk, pk_un (by omega)]; exact q7 j hj
        · intro q hq hqr
          rw [m203, k5 201 (by decide) (by decide), k5 202 (by decide) (by decide), f3 201 (by decide) (by omega), f3 202 (by decide) (by omega)]
          refine ⟨rfl, rfl, fun j hj => pk_un ?_⟩
          have : (k : Int) < 40 := by omega
          omega
      · intro M1 e Q hQ
        unfold wX8_set
        refine p8_isRow ⟨fun _ => p8_isMissing (by omega) ?_, fun c => absurd c h⟩
        rw [e 201 (by decide), if_neg q1]
        refine ⟨fun _ => ⟨vp_of (by omega) (by omega), p8_in ?_⟩, fun c => absurd rfl c⟩
        rw [cl_of (by omega), show M1 (200 + 2) r = M (2 + 2 * r) 1 by rw [e 202 (by decide)]; exact q5]
        exact ⟨fun c => absurd (hz.1 hp) c, fun _ => hQ⟩
  · unfold wX8_set
    exact p8_isRow ⟨fun c => absurd h c, fun _ => ⟨rfl, hI⟩⟩
end PR
