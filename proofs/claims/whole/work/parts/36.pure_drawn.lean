/-! PURE: drawn() -/
theorem lrem_mod (x y : Int64) : x - (x / y) * y = x % y := by
  apply Int64.toInt_inj.mp
  have h1 := Int64.le_toInt (x % y)
  have h2 := Int64.toInt_lt (x % y)
  rw [Int64.toInt_sub, Int64.toInt_mul, Int64.toInt_div, Int.bmod_mul_bmod, Int.sub_bmod_bmod, Int.mul_comm (x.toInt.tdiv y.toInt), ← Int.tmod_def, ← Int64.toInt_mod]
  exact Int.bmod_eq_of_le_mul_two (by omega) (by omega)
theorem lrem_int {x y : Int64} (hx : 0 ≤ x.toInt) : (x - (x / y) * y).toInt = x.toInt % y.toInt := by
  rw [lrem_mod, Int64.toInt_mod, Int.tmod_eq_emod_of_nonneg hx]
/-- the rest of a draw, and the peg that it names -/
def dY (y : Int64) : Int64 := (y * (16807 : Int64)) - (y * (16807 : Int64)) / (2147483647 : Int64) * (2147483647 : Int64)
def dV (y : Int64) : Int32 := (y - y / (7 : Int64) * (7 : Int64)).toInt32 - 3
def dP (n : Nat) (y : Int64) : Nat := (y.toInt % (n : Int)).toNat
def yOk (y : Int64) : Prop := 0 ≤ y.toInt ∧ y.toInt < 2147483647
theorem dY_ok {y : Int64} (h : yOk y) : yOk (dY y) := by
  unfold yOk at *
  unfold dY
  have e1 : (16807 : Int64).toInt = 16807 := rfl
  have e2 : (2147483647 : Int64).toInt = 2147483647 := rfl
  have em : (y * (16807 : Int64)).toInt = y.toInt * 16807 := by
    rw [Int64.toInt_mul, e1]
    exact Int.bmod_eq_of_le (by omega) (by omega)
  rw [lrem_int (by rw [em]; omega), em, e2]
  omega
theorem dP_lt {n : Nat} {y : Int64} (h : yOk y) (h1 : 1 ≤ n) : dP n y < n := by
  unfold dP
  have := Int.emod_nonneg y.toInt (show (n : Int) ≠ 0 by omega)
  have := Int.emod_lt_of_pos y.toInt (show (0 : Int) < n by omega)
  omega
theorem dP_is {n : Nat} {y : Int64} (h : yOk y) (h1 : 1 ≤ n) (h12 : n ≤ 12) : (y - y / (nI n).toInt64 * (nI n).toInt64).toInt32 = nI (dP n y) := by
  have hn : (nI n).toInt64.toInt = (n : Int) := by rw [Int32.toInt_toInt64, pn_n (by omega)]
  have := Int.emod_nonneg y.toInt (show (n : Int) ≠ 0 by omega)
  have := Int.emod_lt_of_pos y.toInt (show (0 : Int) < n by omega)
  rw [pn_eq, Int64.toInt_toInt32, lrem_int h.1, hn, pn_bm (by omega) (by omega), pn_n (by unfold dP; omega)]
  unfold dP
  omega
theorem n64_ne {n : Nat} (h1 : 1 ≤ n) (h12 : n ≤ 12) : ¬ (nI n).toInt64 = 0 := by
  intro q
  have hn : (nI n).toInt64.toInt = (n : Int) := by rw [Int32.toInt_toInt64, pn_n (by omega)]
  rw [q, show (0 : Int64).toInt = 0 from rfl] at hn
  omega
def dWork (n : Nat) (K : Nat → Int32) (x : Int32) (s : Int64 × Int32 × (Nat → Int32) × (Nat → Int32)) : Int64 × Int32 × (Nat → Int32) × (Nat → Int32) := if x - x / 5 * 5 = 0 then (s.1, s.2.1, fMade n K s.2.2.1 s.2.2.2, fun _ => 0) else s
def dLay (n : Nat) (K B : Nat → Int32) (s : Int64 × Int32 × (Nat → Int32) × (Nat → Int32)) : Int64 × Int32 × (Nat → Int32) × (Nat → Int32) := if fReach K B (dP n (dY s.1)) < zabs (dV (dY s.1)) then (dY s.1, s.2.1, s.2.2.1, s.2.2.2) else (dY s.1, s.2.1 + 1, s.2.2.1, upd s.2.2.2 (dP n (dY s.1)) (dV (dY s.1)))
def dAt (n : Nat) (K V B S : Nat → Int32) (y : Int64) : Nat → Int64 × Int32 × (Nat → Int32) × (Nat → Int32)
  | 0 => (y, 0, V, S)
  | t + 1 => dWork n K (nI (t + 1)) (dLay n K B (dAt n K V B S y t))
theorem dWork_1 (n : Nat) (K : Nat → Int32) (x : Int32) (s : Int64 × Int32 × (Nat → Int32) × (Nat → Int32)) : (dWork n K x s).1 = s.1 := by
  unfold dWork; split <;> rfl
theorem dLay_1 (n : Nat) (K B : Nat → Int32) (s : Int64 × Int32 × (Nat → Int32) × (Nat → Int32)) : (dLay n K B s).1 = dY s.1 := by
  unfold dLay; split <;> rfl
/-- a rail of the class, as what its numbers are -/
def clsOf (M : zM) (o n : Nat) (K V B S : Nat → Int32) : Prop := M o 0 = nI n ∧ (∀ k, k < n → M (o + 1) k = K k) ∧ (∀ k, k < n → M (o + 2) k = V k) ∧ (∀ k, k < n → M (o + 3) k = B k) ∧ (∀ k, k < n → M (o + 4) k = S k)
theorem p2_passYears {M : zM} {n m : Nat} {K V B S : Nat → Int32} {Q : Int32 → zM → Prop} {x2 : Int32} (h1 : 1 ≤ n) (h12 : n ≤ 12) (hm : m ≤ 60) (hy : yOk x2.toInt64) (hc : clsOf M 25 n K V B S) (hb : ∀ k, k < n → 0 ≤ (B k).toInt ∧ (B k).toInt ≤ 3)
    (h : ∀ N : zM, (∀ x, x < 25 ∨ 30 ≤ x → N x = M x) → clsOf N 25 n K (dAt n K V B S x2.toInt64 m).2.2.1 B (dAt n K V B S x2.toInt64 m).2.2.2 → Q (dAt n K V B S x2.toInt64 m).2.1 N) : wX2_passYears M 25 (nI m) x2 Q := by
  have key : ∀ d t, t + d = m → ∀ N : zM, (∀ x, x < 25 ∨ 30 ≤ x → N x = M x) → yOk (dAt n K V B S x2.toInt64 t).1 → clsOf N 25 n K (dAt n K V B S x2.toInt64 t).2.2.1 B (dAt n K V B S x2.toInt64 t).2.2.2 → lpX2_passYears_9 25 (nI m) Q (d + 1) (dAt n K V B S x2.toInt64 t).1 (dAt n K V B S x2.toInt64 t).2.1 (nI (t + 1)) N := by
    intro d
    induction d with
    | zero =>
      intro t ht N fN oN cN
      obtain rfl : t = m := by omega
      unfold lpX2_passYears_9
      exact ⟨fun _ => h N fN cN, fun c => absurd (by rw [pn_lt, pn_n (by omega), pn_n (by omega)]; omega) c⟩
    | succ d ih =>
      intro t ht N fN oN cN
      have ih := ih (t + 1) (by omega)
      rw [show dAt n K V B S x2.toInt64 (t + 1) = dWork n K (nI (t + 1)) (dLay n K B (dAt n K V B S x2.toInt64 t)) from rfl] at ih
      generalize dAt n K V B S x2.toInt64 t = s at oN cN ih ⊢
      obtain ⟨y, x, V1, S1⟩ := s
      have oY : yOk (dY y) := dY_ok oN
      rw [dWork_1, dLay_1] at ih
      have pl : dP n (dY y) < n := dP_lt oY h1
      unfold lpX2_passYears_9
      rw [cN.1]
      refine ⟨fun c => absurd c (by rw [pn_lt, pn_n (by omega), pn_n (by omega)]; omega), fun _ => ⟨fun c => absurd ((n_le0 h12).1 c) (by omega), fun _ y9 e9 => ⟨n64_ne h1 h12, fun y10 e10 x11 e11 => ?_⟩⟩⟩
      have e9 : y9 = dY y := e9
      have e11 : x11 = dV y9 := e11
      have e10' : y10.toInt32 = nI (dP n y9) := by rw [e10, e9]; exact dP_is oY h1 h12
      rw [e10']
      subst e9
      subst e11
      refine p2_reach (o := 25) cN.1 h12 pl (by rw [cN.2.2.2.1 _ pl]; exact hb _ pl) ?_
      rw [fReach_of pl cN.2.1 cN.2.2.2.1, cl_of (by omega)]
      have jn : ∀ (c : Int32) (S2 : Nat → Int32) (P : zM), (∀ x, x < 25 ∨ 30 ≤ x → P x = M x) → clsOf P 25 n K V1 B S2 → dLay n K B (y, x, V1, S1) = (dY y, c, V1, S2) → jnX2_passYears_78 25 (nI (t + 1)) (dY y) (lpX2_passYears_9 25 (nI m) Q (d + 1)) c P := by
        intro c S2 P fP cP eL
        rw [eL] at ih
        unfold jnX2_passYears_78
        unfold dWork at ih
        refine ⟨fun q x17 e17 => ?_, fun q => ?_⟩
        · rw [if_neg q] at ih
          rw [e17, nI_1]
          exact ih P fP oY cP
        · rw [if_pos q] at ih
          refine p2_workIn (o := 25) cP.1 h12 (fun N2 f2 v2 s2 x19 e19 => ?_)
          rw [e19, nI_1]
          refine ih N2 (fun x hx => by rw [f2 x (by omega) (by omega), fP x hx]) oY ⟨?_, fun k hk => ?_, fun k hk => ?_, fun k hk => ?_, fun k hk => s2 k (by omega)⟩
          · rw [f2 25 (by omega) (by omega)]; exact cP.1
          · rw [f2 (25 + 1) (by omega) (by omega)]; exact cP.2.1 k hk
          · rw [v2 k hk]; exact fMade_of hk cP.2.1 cP.2.2.1 cP.2.2.2.2
          · rw [f2 (25 + 3) (by omega) (by omega)]; exact cP.2.2.2.1 k hk
      refine ⟨fun q => jn x S1 N fN cN (by unfold dLay; exact if_pos q), fun q => ⟨vp_of (by omega) (by omega), fun M20 e20 x21 e21 => ?_⟩⟩
      rw [e21]
      refine jn _ (upd S1 (dP n (dY y)) (dV (dY y))) M20 (fun x hx => by rw [e20, va_up_ne _ _ (by omega), fN x hx]) ⟨?_, fun k hk => ?_, fun k hk => ?_, fun k hk => ?_, fun k hk => ?_⟩ (by unfold dLay; exact if_neg q)
      · rw [e20, va_up_ne _ _ (by omega)]; exact cN.1
      · rw [e20, va_up_ne _ _ (by omega)]; exact cN.2.1 k hk
      · rw [e20, va_up_ne _ _ (by omega)]; exact cN.2.2.1 k hk
      · rw [e20, va_up_ne _ _ (by omega)]; exact cN.2.2.2.1 k hk
      · rw [e20, va_up_self]
        by_cases c : k = dP n (dY y)
        · rw [c, pk_us, pk_us]
        · rw [pk_un c, pk_un c]; exact cN.2.2.2.2 k hk
  exact ⟨m + 1, key m 0 (by omega) M (fun _ _ => rfl) hy hc⟩
theorem p8_years {M : zM} {n m : Nat} {W : Int32} {K V B S : Nat → Int32} {C : Int64 → Int32 → Int32 → zM → Prop} {x2 : Int32} (h1 : 1 ≤ n) (h12 : n ≤ 12) (hm : m ≤ 60) (hy : yOk x2.toInt64) (hn : M 206 0 = nI n) (hr : rowOf (M 208) n W K V B S)
    (h : ∀ (N : zM) (W' : Int32) (y : Int64) (z : Int32), (∀ x, x ≠ 208 → N x = M x) → rowOf (N 208) n W' K (dAt n K V B S x2.toInt64 m).2.2.1 B (dAt n K V B S x2.toInt64 m).2.2.2 → C y (dAt n K V B S x2.toInt64 m).2.1 z N) : ∃ fu, lpX8_drawn_65 200 (nI m) C fu x2.toInt64 0 1 M := by
  have key : ∀ d t, t + d = m → ∀ (N : zM) (W' : Int32), (∀ x, x ≠ 208 → N x = M x) → yOk (dAt n K V B S x2.toInt64 t).1 → rowOf (N 208) n W' K (dAt n K V B S x2.toInt64 t).2.2.1 B (dAt n K V B S x2.toInt64 t).2.2.2 → lpX8_drawn_65 200 (nI m) C (d + 1) (dAt n K V B S x2.toInt64 t).1 (dAt n K V B S x2.toInt64 t).2.1 (nI (t + 1)) N := by
    intro d
    induction d with
    | zero =>
      intro t ht N W' fN oN cN
      obtain rfl : t = m := by omega
      unfold lpX8_drawn_65
      exact ⟨fun _ => h N W' _ _ fN cN, fun c => absurd (by rw [pn_lt, pn_n (by omega), pn_n (by omega)]; omega) c⟩
    | succ d ih =>
      intro t ht N W' fN oN cN
      have ih := ih (t + 1) (by omega)
      rw [show dAt n K V B S x2.toInt64 (t + 1) = dWork n K (nI (t + 1)) (dLay n K B (dAt n K V B S x2.toInt64 t)) from rfl] at ih
      generalize dAt n K V B S x2.toInt64 t = s at oN cN ih ⊢
      obtain ⟨y, x, V1, S1⟩ := s
      have oY : yOk (dY y) := dY_ok oN
      rw [dWork_1, dLay_1] at ih
      have pl : dP n (dY y) < n := dP_lt oY h1
      have hn' : N (200 + 6) (0 : Int32).toNatClampNeg = nI n := by rw [fN (200 + 6) (by decide)]; exact hn
      unfold lpX8_drawn_65
      rw [hn']
      refine ⟨fun c => absurd c (by rw [pn_lt, pn_n (by omega), pn_n (by omega)]; omega), fun _ y20 e20 y21 e21 => ?_⟩
      have e20 : y20 = dY y := e20
      subst e20
      subst e21
      refine ⟨n64_ne h1 h12, fun x22 e22 => p8_size ?_⟩
      have e22' : x22 - 3 = dV (dY y) := by rw [e22]; rfl
      rw [e22', dP_is oY h1 h12]
      refine p8_reach (o := 208) (by omega) (by omega) (by omega) ?_
      rw [fReach_of pl cN.2.2.1 cN.2.2.2.2.1]
      have jn : ∀ (c : Int32) (S2 : Nat → Int32) (P : zM), (∀ x, x ≠ 208 → P x = M x) → rowOf (P 208) n W' K V1 B S2 → dLay n K B (y, x, V1, S1) = (dY y, c, V1, S2) → jnX8_drawn_142 200 (nI (t + 1)) (dY y) (lpX8_drawn_65 200 (nI m) C (d + 1)) c P := by
        intro c S2 P fP cP eL
        rw [eL] at ih
        unfold jnX8_drawn_142
        unfold dWork at ih
        refine ⟨fun q x17 e17 => ?_, fun q => ?_⟩
        · rw [if_neg q] at ih
          rw [e17, nI_1]
          exact ih P W' fP oY cP
        · rw [if_pos q] at ih
          refine p8_works (o := 208) (by omega) (by omega) h12 cP (fun N2 f2 r2 x19 e19 => ?_)
          rw [e19, nI_1]
          exact ih N2 _ (fun x hx => by rw [f2 x hx, fP x hx]) oY r2
      refine ⟨fun q => jn x S1 N fN cN (by unfold dLay; exact if_pos q), fun q x33 e33 => ?_⟩
      rw [e33, show (((2 : Int32) + 4 * nI (dP n (dY y))) + 3) = nI (2 + 4 * dP n (dY y) + 3) from nI_4c _ 3, cl_of (by omega), show 2 + 4 * dP n (dY y) + 3 = 5 + 4 * dP n (dY y) by omega]
      refine ⟨vp_of (by omega) (by omega), fun M34 e34 x35 e35 => ?_⟩
      rw [e35]
      refine jn _ (upd S1 (dP n (dY y)) (dV (dY y))) M34 (fun x hx => by rw [e34, va_up_ne _ _ hx, fN x hx]) ?_ (by unfold dLay; exact if_neg q)
      rw [e34, va_up_self]
      exact row_S cN
  exact ⟨m + 1, key m 0 (by omega) M W (fun _ _ => rfl) hy hr⟩
section PD
variable {S : zM → Prop}
theorem took_cls {M N : zM} {n : Nat} (h : took M N 25 20 n) (hn : M 20 0 = nI n) : clsOf N 25 n (M 21) (M 22) (M 23) (M 24) := ⟨h.2.1.trans hn, fun k hk => (h.2.2.2 k hk).1, fun k hk => (h.2.2.2 k hk).2.1, fun k hk => (h.2.2.2 k hk).2.2.1, fun k hk => (h.2.2.2 k hk).2.2.2⟩
theorem s_drawn (hS : sOwn S) : st_drawn (fun M _ => cAll S M) := by
  intro M J a b w hI
  obtain ⟨n, e7, e8, h12, hrn, hn0⟩ := rail_n hI.2.2.2.1
  have hrow : rowOf (M 206) n (M 20 1) (M 21) (M 22) (M 23) (M 24) := row_rel hI.2.2.2.1.1 e7 h12
  unfold wX7_drawn
  refine p2_isThere ?_
  show (¬ (if M 20 0 ≤ 0 then (0 : Int32) else 1) = 0 → _) ∧ ((if M 20 0 ≤ 0 then (0 : Int32) else 1) = 0 → _)
  rw [e7]
  by_cases hz : n = 0
  · rw [if_pos ((n_le0 h12).2 hz)]
    refine ⟨fun c => absurd rfl c, fun _ => ?_⟩
    unfold wX8_drawn
    refine p8_isRail ?_
    rw [e8, if_pos ((n_le0 h12).2 hz)]
    exact ⟨fun c => absurd rfl c, fun _ => ⟨rfl, hI⟩⟩
  · rw [if_neg (fun q => hz ((n_le0 h12).1 q))]
    refine ⟨fun _ => ?_, fun c => absurd c (by decide)⟩
    obtain ⟨h3, -, hok⟩ := rail_pos hI.2.2.2.1 e7 h12 (by omega)
    have ref : ∀ M1 : zM, M1 206 = M 206 → ∀ Q : Int32 → zM → Prop, (zin a 0 60 = 0 → Q (-1000001) M1) → (¬ zin a 0 60 = 0 → (zin b 1 999999 = 0 → Q (-1000001) M1) ∧ (¬ zin b 1 999999 = 0 → (zin w 0 1 = 0 → Q (-1000001) M1) ∧ (¬ zin w 0 1 = 0 → ∃ fu65 : Nat, lpX8_drawn_65 200 a (fun y15 x16 x17 M18 => ((¬ w = 0) → (Q x16 M18)) ∧ ((w = 0) → (wX8_worst M18 (200 + 8) 50 (fun r19 => Q r19 M18)))) fu65 b.toInt64 (0 : Int32) (1 : Int32) (va_up M1 208 (va_cpy (M1 206) (M1 208) 0 0 50))))) → wX8_drawn M1 200 a b w Q := by
      intro M1 e Q f1 f2
      unfold wX8_drawn
      refine p8_isRail ?_
      rw [e, e8, if_neg (fun q => hz ((n_le0 h12).1 q))]
      refine ⟨fun _ => p8_in ⟨f1, fun c => p8_in ⟨(f2 c).1, fun d => p8_in ⟨fun g => ?_, ((f2 c).2 d).1⟩⟩⟩, fun c => absurd c (by decide)⟩
      exact p8_copies (a := 0) (b := 0) (by decide) (by omega) (by omega) (by omega) (by omega) (((f2 c).2 d).2 g)
    refine p7_within ⟨fun c => ?_, fun c => p7_within ⟨fun d => ?_, fun d => p7_within ⟨fun g => ?_, fun g => ?_⟩⟩⟩
    · exact ref M rfl _ (fun _ => ⟨rfl, hI⟩) (fun q => absurd c q)
    · exact ref M rfl _ (fun q => absurd q c) (fun _ => ⟨fun _ => ⟨rfl, hI⟩, fun q => absurd d q⟩)
    · obtain ⟨m, hm, rfl⟩ := zin_lit (n := 60) rfl c
      obtain ⟨b1, b2⟩ := zin_in d
      have hy : yOk b.toInt64 := by
        unfold yOk
        rw [Int32.toInt_toInt64]
        rw [show (1 : Int32).toInt = 1 from rfl] at b1
        rw [show (999999 : Int32).toInt = 999999 from rfl] at b2
        omega
      refine p2_become (o0 := 25) (o1 := 20) e7 h12 (by omega) (fun A hA => ?_)
      refine p2_passYears (by omega) h12 hm hy (took_cls hA e7) (fun k hk => (hok k hk).2.2.1) (fun N fN cN => ?_)
      have fA : ∀ o, (o < 25 ∨ 30 ≤ o) → N o = M o := fun o ho => by rw [fN o ho, hA.1 o (by omega)]
      have fin : ∀ r : Int32, (¬ w = 0 → r = (dAt n (M 21) (M 22) (M 23) (M 24) b.toInt64 m).2.1) → (w = 0 → r = fWorst n (M 21) (dAt n (M 21) (M 22) (M 23) (M 24) b.toInt64 m).2.2.1 (dAt n (M 21) (M 22) (M 23) (M 24) b.toInt64 m).2.2.2) → wX8_drawn N 200 (nI m) b w (fun r2 M2 => r = r2 ∧ cAll S M2) := by
        intro r r1 r2
        refine ref N (fA 206 (by omega)) _ (fun q => absurd q c) (fun _ => ⟨fun q => absurd q d, fun _ => ⟨fun q => absurd q g, fun _ => ?_⟩⟩)
        refine p8_years (n := n) (W := M 20 1) (K := M 21) (V := M 22) (B := M 23) (S := M 24) (by omega) h12 hm hy ?_ ?_ (fun P W' y z fP cP => ?_)
        · rw [va_up_ne _ _ (by decide), fA 206 (by omega)]; exact e8
        · rw [va_up_self, fA 206 (by omega)]; exact row_cpy hrow h12
        · have g8 : ∀ o, (o < 25 ∨ 30 ≤ o) → o ≠ 208 → P o = M o := fun o h1 h2 => by rw [fP o h2, va_up_ne _ _ h2, fA o h1]
          have fc : cAll S P := all_fore hS hI (fun o h1 h2 h3 h4 h5 h6 h7 h8 h9 => g8 o h1 h7) (by rw [g8 0 (by omega) (by omega), g8 200 (by omega) (by omega)]; exact hI.2.1) (by rw [g8 200 (by omega) (by omega)]; exact ⟨rfl, rfl, rfl, rfl⟩) (by rw [g8 165 (by omega) (by omega)]; exact ⟨rfl, rfl⟩)
          refine ⟨fun q => ⟨r1 q, fc⟩, fun q => p8_worst (o := 208) (by omega) (by omega) cP.1 h12 (by omega) ⟨?_, fc⟩⟩
          rw [r2 q]
          exact (fWorst_of cP.2.2.1 cP.2.2.2.1 cP.2.2.2.2.2).symm
      refine ⟨fun q => fin _ (fun _ => rfl) (fun z => absurd z q), fun q => p2_worst (o := 25) cN.1 h12 (by omega) (fin _ (fun z => absurd q z) (fun _ => ?_))⟩
      exact fWorst_of cN.2.1 cN.2.2.1 cN.2.2.2.2
    · exact ref M rfl _ (fun q => absurd q c) (fun _ => ⟨fun q => absurd q d, fun _ => ⟨fun _ => ⟨rfl, hI⟩, fun q => absurd g q⟩⟩)
end PD
