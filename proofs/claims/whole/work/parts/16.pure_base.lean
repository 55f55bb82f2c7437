/-! PURE: numbers -/
theorem pn_lt {a b : Int32} : a < b ↔ a.toInt < b.toInt := Int32.lt_iff_toInt_lt
theorem pn_le {a b : Int32} : a ≤ b ↔ a.toInt ≤ b.toInt := Int32.le_iff_toInt_le
theorem pn_eq {a b : Int32} : a = b ↔ a.toInt = b.toInt := ⟨fun h => by rw [h], fun h => Int32.toInt_inj.mp h⟩
theorem pn_rng (x : Int32) : -2147483648 ≤ x.toInt ∧ x.toInt < 2147483648 := ⟨by have := Int32.le_toInt x; simpa using this, by have := Int32.toInt_lt x; simpa using this⟩
theorem pn_bm {z : Int} (h1 : -2147483648 ≤ z) (h2 : z < 2147483648) : z.bmod (2 ^ 32) = z := Int.bmod_eq_of_le (by omega) (by omega)
theorem pn_add {x y : Int32} (h1 : -2147483648 ≤ x.toInt + y.toInt) (h2 : x.toInt + y.toInt < 2147483648) : (x + y).toInt = x.toInt + y.toInt := by rw [Int32.toInt_add]; exact pn_bm h1 h2
theorem pn_sub {x y : Int32} (h1 : -2147483648 ≤ x.toInt - y.toInt) (h2 : x.toInt - y.toInt < 2147483648) : (x - y).toInt = x.toInt - y.toInt := by rw [Int32.toInt_sub]; exact pn_bm h1 h2
theorem pn_mul {x y : Int32} (h1 : -2147483648 ≤ x.toInt * y.toInt) (h2 : x.toInt * y.toInt < 2147483648) : (x * y).toInt = x.toInt * y.toInt := by rw [Int32.toInt_mul]; exact pn_bm h1 h2
theorem pn_n {n : Nat} (h : n < 2147483648) : (nI n).toInt = (n : Int) := nI_toInt (by omega)
theorem pn_of {x : Int32} (h : 0 ≤ x.toInt) : x = nI x.toInt.toNat := by
  have := pn_rng x
  rw [pn_eq, pn_n (by omega)]
  omega
/-- within, as both sides ask it -/
def zin (x a b : Int32) : Int32 := if x < a then 0 else if b < x then 0 else 1
theorem zin_nar (x a b : Int32) : narrow .boolean (.int (zin x a b)) = .int (zin x a b) := by unfold zin; split <;> (try split) <;> rfl
theorem zin_0 {x a b : Int32} : zin x a b = 0 ↔ (x < a ∨ b < x) := by
  unfold zin
  by_cases h : x < a
  · simp [h]
  · by_cases h2 : b < x
    · simp [h, h2]
    · simp [h, h2]
theorem zin_in {x a b : Int32} (h : ¬ zin x a b = 0) : a.toInt ≤ x.toInt ∧ x.toInt ≤ b.toInt := by
  have h2 : ¬ (x < a ∨ b < x) := fun q => h (zin_0.2 q)
  rw [pn_lt, pn_lt] at h2
  omega
theorem p7_within {M : zM} {x a b : Int32} {Q : Int32 → Prop} (h : Q (zin x a b)) : wX7_isWithin M x a b Q := by
  unfold wX7_isWithin zin at *
  refine ⟨fun c => by rwa [if_pos c] at h, fun c => ⟨fun d => by rwa [if_neg c, if_pos d] at h, fun d => by rwa [if_neg c, if_neg d] at h⟩⟩
theorem p8_in {M : zM} {x a b : Int32} {Q : Int32 → Prop} (h : Q (zin x a b)) : wX8_in M x a b Q := by
  unfold wX8_in zin at *
  refine ⟨fun c => by rwa [if_pos c] at h, fun c => ⟨fun d => by rwa [if_neg c, if_pos d] at h, fun d => by rwa [if_neg c, if_neg d] at h⟩⟩
theorem p7_isRow {M : zM} {x : Int32} {Q : Int32 → Prop} (h : Q (zin x 0 7)) : wX7_isRow M x Q := p7_within ⟨zin_nar _ _ _, h⟩
theorem p8_isRow {M : zM} {x : Int32} {Q : Int32 → Prop} (h : Q (zin x 0 7)) : wX8_isRow M x Q := p8_in ⟨zin_nar _ _ _, h⟩
theorem p7_isPeg {M : zM} {x : Int32} {Q : Int32 → Prop} (h : Q (zin x 0 (M 20 0 - 1))) : wX7_isPeg M 0 x Q := p7_within ⟨zin_nar _ _ _, h⟩
theorem p8_isPeg {M : zM} {x : Int32} {Q : Int32 → Prop} (h : Q (zin x 0 (M 206 0 - 1))) : wX8_isPeg M 200 x Q := fun x4 e4 => p8_in ⟨zin_nar _ _ _, by rw [e4]; exact h⟩
/-- a number within is a small one -/
theorem zin_nat {x : Int32} {n : Nat} (hn : n ≤ 1000000) (h : ¬ zin x 0 (nI n - 1) = 0) : ∃ k : Nat, k < n ∧ x = nI k := by
  obtain ⟨h1, h2⟩ := zin_in h
  have e0 : (0 : Int32).toInt = 0 := rfl
  have e1 : (1 : Int32).toInt = 1 := rfl
  have e2 := pn_n (n := n) (by omega)
  rw [pn_sub (by rw [e2, e1]; omega) (by rw [e2, e1]; omega), e2, e1] at h2
  rw [e0] at h1
  exact ⟨x.toInt.toNat, by omega, pn_of h1⟩
theorem zin_lit {x b : Int32} {n : Nat} (hb : b.toInt = n) (h : ¬ zin x 0 b = 0) : ∃ k : Nat, k ≤ n ∧ x = nI k := by
  obtain ⟨h1, h2⟩ := zin_in h
  have e0 : (0 : Int32).toInt = 0 := rfl
  rw [e0] at h1
  exact ⟨x.toInt.toNat, by omega, pn_of h1⟩
theorem vp_of {n N : Nat} (h : n < N) (hN : N ≤ 100000) : vp_in (nI n) N := vp_in_nI h (by omega)
theorem cl_of {n : Nat} (h : n < 100000) : (nI n).toNatClampNeg = n := nI_clamp (by omega)
theorem up_up {α : Type} (f : Nat → α) (k : Nat) (v w : α) : va_up (va_up f k v) k w = va_up f k w := bx_uu f k v w
theorem up_id {α : Type} (f : Nat → α) (k : Nat) : va_up f k (f k) = f := by funext j; by_cases h : j = k <;> simp [va_up, h]
/-- a loop that copies fifty numbers -/
theorem cpy_0 {α : Type} (f g : Nat → α) (a b : Nat) : va_cpy f g a b 0 = g := by
  funext k
  unfold va_cpy
  rw [if_neg (by omega)]
theorem cpy_s (f g : Nat → Int32) (a b i : Nat) : upd (va_cpy f g a b i) (b + i) (f (a + i)) = va_cpy f g a b (i + 1) := by
  funext k
  unfold upd va_cpy
  by_cases h : k = b + i
  · subst h
    rw [if_pos rfl, if_pos (by omega), show b + i - b = i by omega]
  · rw [if_neg h]
    by_cases h2 : b ≤ k ∧ k < b + i
    · rw [if_pos h2, if_pos (by omega)]
    · rw [if_neg h2, if_neg (by omega)]
theorem p8_copies {M : zM} {o0 n0 a o2 n2 b : Nat} {Q : zM → Prop} (ho : o0 ≠ o2) (ha : a + 50 ≤ n0) (hb : b + 50 ≤ n2) (h0 : n0 ≤ 10000) (h2 : n2 ≤ 10000) (hQ : Q (va_up M o2 (va_cpy (M o0) (M o2) a b 50))) : wX8_copies M o0 n0 (nI a) o2 n2 (nI b) Q := by
  have key : ∀ d i, i + d = 50 → lpX8_copies_3 o0 n0 (nI a) o2 n2 (nI b) Q (d + 1) (nI i) (va_up M o2 (va_cpy (M o0) (M o2) a b i)) := by
    intro d
    induction d with
    | zero =>
      intro i hi
      obtain rfl : i = 50 := by omega
      unfold lpX8_copies_3
      exact ⟨fun _ => hQ, fun h => absurd (show (50 : Int32) ≤ nI 50 from by decide) h⟩
    | succ d ih =>
      intro i hi
      unfold lpX8_copies_3
      refine ⟨fun h => absurd h (nI_ge (a := i) (b := 50) (by omega) (by decide)), fun _ => ⟨?_, ?_, ?_⟩⟩
      · rw [nI_add]; exact vp_of (by omega) (by omega)
      · rw [nI_add]; exact vp_of (by omega) (by omega)
      · intro M8 e8 x9 e9
        rw [e9, nI_1, e8, nI_add, nI_add, cl_of (by omega), cl_of (by omega), va_up_self, va_up_ne _ _ ho, up_up, cpy_s]
        exact ih (i + 1) (by omega)
  refine ⟨51, ?_⟩
  have := key 50 0 rfl
  rw [cpy_0, up_id] at this
  exact this
theorem fill_0 (g : Nat → Int32) (x : Int32) : (fun k => if k < 0 then x else g k) = g := by funext k; simp
theorem pJ_fill {M : zM} {o n : Nat} {x : Int32} {Q : zM → Prop} (hn : n ≤ 10000) (hQ : Q (va_up M o (fun k => if k < n then x else M o k))) : wJ7_fill_53178 M o n x Q := by
  have key : ∀ d i, i + d = n → lpJ7_fill_53178_5 o n x Q (d + 1) (nI i) (va_up M o (fun k => if k < i then x else M o k)) := by
    intro d
    induction d with
    | zero =>
      intro i hi
      obtain rfl : i = n := by omega
      unfold lpJ7_fill_53178_5
      exact ⟨fun _ => hQ, fun h => absurd (nI_le (Nat.le_refl i) (by omega)) h⟩
    | succ d ih =>
      intro i hi
      unfold lpJ7_fill_53178_5
      refine ⟨fun h => absurd h (nI_ge (show i < n by omega) (by omega)), fun _ => ⟨vp_of (by omega) (by omega), ?_⟩⟩
      intro M8 e8 x9 e9
      have : upd (fun k => if k < i then x else M o k) i x = (fun k => if k < i + 1 then x else M o k) := by
        funext k
        unfold upd
        by_cases h : k = i
        · rw [if_pos h, if_pos (by omega)]
        · rw [if_neg h]
          show (if k < i then x else M o k) = _
          by_cases h2 : k < i
          · rw [if_pos h2, if_pos (by omega)]
          · rw [if_neg h2, if_neg (by omega)]
      rw [e9, nI_1, e8, cl_of (by omega), va_up_self, up_up, this]
      exact ih (i + 1) (by omega)
  refine ⟨n + 1, ?_⟩
  have := key n 0 (by omega)
  rw [fill_0, up_id] at this
  exact this
