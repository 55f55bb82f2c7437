/-! PURE: chance(), what the class comes to; what the reference comes to beside it -/
def aC (n : Nat) (K V S : Nat → Int32) (v : Int32) (c : Nat) : Nat := SU n (fun β => pW (wC n K S c) β n * pI n K V S v β (n - 1))
def sF (K S : Nat → Int32) (k : Nat) : Nat := if ¬ fSet K S k = S k then 10 else 1
def bCl (n : Nat) (K S : Nat → Int32) : Nat := pT (sF K S) n
theorem wy_n {n : Nat} {K V S : Nat → Int32} {v : Int32} {c : Nat} {A : Nat → Nat} (h1 : 1 ≤ n) (h12 : n ≤ 12) (h : wy n K V S v c (n - 1) A) : ns A 8 = aC n K V S v c := by
  have h := h (fun _ => 1)
  rw [show ns A 8 = ns (fun i => A i * 1) 8 from ns_of 8 (fun i _ => (Nat.mul_one _).symm), h, show n - 1 + 2 = n + 1 by omega, SU_s (m := n)]
  unfold aC
  refine congrArg (SU n) (funext fun β => ?_)
  show pW (wC n K S c) β n * (wC n K S c n 0 * (pI n K V S v (ub β n 0) (n - 1) * 1) + wC n K S c n 1 * (pI n K V S v (ub β n 1) (n - 1) * 1)) = _
  have e0 : wC n K S c n 0 = 1 := by unfold wC; rw [if_neg (by omega)]
  have e1 : wC n K S c n 1 = 0 := by unfold wC; rw [if_neg (by omega)]
  rw [e0, e1, pI_ub (n - 1) (by omega) (by split <;> omega) h12, Nat.zero_mul, Nat.one_mul, Nat.mul_one, Nat.add_zero]
section CJ
variable {M : zM} {J : zL} {n : Nat} {K V S : Nat → Int32}
theorem p5_solve {c : Nat} {v : Int32} {Q : zM → zL → Prop} (hc : cr M n K V S) (h3 : 3 ≤ n) (hS : cSet M) (hc10 : c ≤ 10) (hA : aC n K V S v c < 2 ^ 40) (hB : bCl n K S < 2 ^ 40) (hB0 : 0 < bCl n K S)
    (h : ∀ N J', fr M N 165 → cSet N → J' 165 0 = lN (aC n K V S v c / Nat.gcd (bCl n K S) (aC n K V S v c)) → J' 165 1 = lN (bCl n K S / Nat.gcd (bCl n K S) (aC n K V S v c)) → Q N J') : wX5_solve M J 165 20 v (nI c) Q := by
  have h12 := hc.2.1
  unfold wX5_solve
  intro M6 e6
  have f6 : fr M M6 165 := fun x hx => by rw [e6, va_up_ne _ _ hx]
  have g6 : M6 165 = upd (M 165) 0 (nI c) := by rw [e6, va_up_self]
  have s6 : cSet M6 := cSet_of hS (by rw [g6, pk_un (by decide)]) (by rw [g6, pk_un (by decide)])
  refine p5_begin (cr_fr hc f6) s6 (by rw [g6, pk_us]) hc10 (fun J8 z8 => ?_)
  have lp13 : ∀ C : Int32 → zM → zL → Prop, (∀ x N J' A, fr M N 165 → cSet N → wy n K V S v c (n - 1) A → (∀ i, i < 8 → J' (zw (N 165 1) 165) i = lN (A i)) → C x N J') → ∀ d p, p + d = n - 1 → ∀ N J' A, fr M N 165 → cSet N → N 165 0 = nI c → wy n K V S v c p A → (∀ i, i < 8 → J' (zw (N 165 1) 165) i = lN (A i)) → lpX5_solve_13 165 20 v C (d + 1) (nI p) N J' := by
    intro C hC d
    induction d with
    | zero =>
      intro p hp N J' A fN sN zN wN aN
      obtain rfl : p = n - 1 := by omega
      unfold lpX5_solve_13
      rw [(cr_fr hc fN).1, nm1 (by omega)]
      exact ⟨fun _ => hC _ N J' A fN sN wN aN, fun q => absurd (nI_le (Nat.le_refl _) (by omega)) q⟩
    | succ d ih =>
      intro p hp N J' A fN sN zN wN aN
      unfold lpX5_solve_13
      rw [(cr_fr hc fN).1, nm1 (by omega)]
      refine ⟨fun q => absurd q (nI_ge (by omega) (by omega)), fun _ => p5_goOn (cr_fr hc fN) sN zN hc10 (by omega) aN (fun N2 J2 f2 s2 z2 a2 x38 e38 => ?_)⟩
      rw [e38, nI_1]
      exact ih (p + 1) (by omega) N2 J2 _ (fun x hx => by rw [f2 x hx, fN x hx]) s2 z2 (wy_s (by omega) h12 wN) a2
  refine ⟨_, lp13 _ (fun x N J' A fN sN wN aN J15 e15 => ?_) (n - 1) 0 (by omega) M6 J8 _ f6 s6 (by rw [g6, pk_us]) wy_0 z8⟩
  obtain ⟨a, b, ea, eb, nab, na, nb⟩ := cSet_z sN
  have crN := cr_fr hc fN
  have hsum := wy_n (by omega) h12 wN
  rw [ea] at aN
  have lp46 : ∀ C : Int32 → zL → Prop, (∀ x J2, J2 165 0 = lN (aC n K V S v c) → C x J2) → ∀ d i, i + d = 8 → ∀ J2 : zL, (∀ k, k < 8 → J2 a k = lN (A k)) → J2 165 0 = lN (ns A i) → lpX5_solve_46 165 N C (d + 1) (nI i) J2 := by
    intro C hC d
    induction d with
    | zero =>
      intro i hi J2 a2 z2
      obtain rfl : i = 8 := by omega
      unfold lpX5_solve_46
      exact ⟨fun _ => hC _ J2 (by rw [z2, hsum]), fun q => absurd (show (8 : Int32) ≤ nI 8 by decide) q⟩
    | succ d ih =>
      intro i hi J2 a2 z2
      unfold lpX5_solve_46
      rw [ea, cl_of (by omega)]
      refine ⟨fun q => absurd q (nI_ge (a := i) (b := 8) (by omega) (by decide)), fun _ => ⟨vp_of (by omega) (by omega), fun y33 e33 J34 e34 x35 e35 => ?_⟩⟩
      rw [e35, nI_1]
      rw [z2, a2 i (by omega), lN_add] at e33
      refine ih (i + 1) (by omega) J34 (fun k hk => by rw [e34, va_up_ne _ _ na]; exact a2 k hk) ?_
      rw [e34, va_up_self, pk_uLs, e33, ns]
  refine ⟨_, lp46 _ (fun x J19 z19 J20 e20 => ?_) 8 0 (by omega) J15 (fun k hk => by rw [e15, va_up_ne _ _ na]; exact aN k hk) (by rw [e15, va_up_self, pk_uLs]; rfl)⟩
  have lp83 : ∀ C : Int32 → zL → Prop, (∀ x J2, J2 165 0 = lN (aC n K V S v c) → J2 165 1 = lN (bCl n K S) → C x J2) → ∀ d i, i + d = n → ∀ J2 : zL, J2 165 0 = lN (aC n K V S v c) → J2 165 1 = lN (pT (sF K S) i) → lpX5_solve_83 165 20 N C (d + 1) (nI i) J2 := by
    intro C hC d
    induction d with
    | zero =>
      intro i hi J2 a2 z2
      obtain rfl : i = n := by omega
      unfold lpX5_solve_83
      rw [crN.1]
      exact ⟨fun _ => hC _ J2 a2 z2, fun q => absurd (nI_le (Nat.le_refl _) (by omega)) q⟩
    | succ d ih =>
      intro i hi J2 a2 z2
      unfold lpX5_solve_83
      rw [crN.1, z2]
      refine ⟨fun q => absurd q (nI_ge (by omega) (by omega)), fun _ => p5_settles crN (by omega) ⟨fun q J29 e29 x30 e30 => ?_, fun q J31 e31 x32 e32 => ?_⟩⟩
      · rw [e30, nI_1]
        refine ih (i + 1) (by omega) J29 (by rw [e29, va_up_self, pk_uLn (by decide)]; exact a2) ?_
        rw [e29, va_up_self, pk_uLs, show (1 : Int64) = lN 1 from rfl, lN_mul, pT]
        unfold sF
        rw [if_neg (fun z => by rw [if_pos ⟨by omega, z⟩] at q; exact absurd q (by decide))]
      · rw [e32, nI_1]
        refine ih (i + 1) (by omega) J31 (by rw [e31, va_up_self, pk_uLn (by decide)]; exact a2) ?_
        rw [e31, va_up_self, pk_uLs, show (10 : Int64) = lN 10 from rfl, lN_mul, pT]
        unfold sF
        rw [if_pos (fun z => q (if_neg (fun y => y.2 z)))]
  refine ⟨_, lp83 _ (fun x J24 a24 b24 => ?_) n 0 (by omega) J20 (by rw [e20, va_up_self, pk_uLn (by decide)]; exact z19) (by rw [e20, va_up_self, pk_uLs]; rfl)⟩
  rw [a24, b24]
  have hg0 : 0 < Nat.gcd (bCl n K S) (aC n K V S v c) := Nat.gcd_pos_of_pos_left _ hB0
  have hgl : Nat.gcd (bCl n K S) (aC n K V S v c) ≤ bCl n K S := Nat.le_of_dvd hB0 (Nat.gcd_dvd_left _ _)
  unfold wX5_commonDivisor
  refine ⟨_, p5_gcd 40 (bCl n K S) (aC n K V S v c) 0 hA (by omega) (by omega) (by omega) ⟨fun q => ?_, fun q => ?_⟩⟩
  · have q : ¬ (lN 1 < lN (Nat.gcd (bCl n K S) (aC n K V S v c))) := fun z => by
      rw [← cmp_gt] at z
      rw [pn_le, t0] at q
      rw [pn_lt, t0] at z
      have z : 0 < (lg_cmp (lN (Nat.gcd (bCl n K S) (aC n K V S v c))) 1).toInt := z
      omega
    rw [pk_lLT (by omega) (by omega)] at q
    have e1 : Nat.gcd (bCl n K S) (aC n K V S v c) = 1 := by omega
    refine h N J24 fN sN ?_ ?_
    · rw [a24, e1, Nat.div_one]
    · rw [b24, e1, Nat.div_one]
  · refine ⟨l0_ne hg0 (by omega), fun J26 e26 => ⟨l0_ne hg0 (by omega), fun J27 e27 => ?_⟩⟩
    rw [pk_lDiv (by omega) hg0 (by omega)] at e26
    have g26 : J26 165 = vp_updL (J24 165) 0 (lN (aC n K V S v c / Nat.gcd (bCl n K S) (aC n K V S v c))) := by rw [e26, va_up_self]
    have g27 : J27 165 = vp_updL (vp_updL (J24 165) 0 (lN (aC n K V S v c / Nat.gcd (bCl n K S) (aC n K V S v c)))) 1 (lN (bCl n K S / Nat.gcd (bCl n K S) (aC n K V S v c))) := by
      rw [e27, va_up_self, g26, pk_uLn (by decide), b24, pk_lDiv (by omega) hg0 (by omega)]
    refine h N J27 fN sN ?_ ?_
    · rw [g27, pk_uLn (by decide), pk_uLs]
    · rw [g27, pk_uLs]
end CJ
/-- the reference's weights -/
def wQ (K : Nat → Int32) (c k x : Nat) : Nat := if K k = 2 then (if x = 0 then 10 - c else c) else 1 - x
def aR (n : Nat) (K V S : Nat → Int32) (v : Int32) (c : Nat) : Nat := SU n (fun β => pW (wQ K c) β n * pI n K V S v β (n - 1))
def rF (K : Nat → Int32) (k : Nat) : Nat := if K k = 2 then 10 else 1
def bRf (n : Nat) (K : Nat → Int32) : Nat := pT (rF K) n
def tD (K S : Nat → Int32) (k : Nat) : Nat := if K k = 2 ∧ fSet K S k = S k then 10 else 1
theorem fSet_n {K S : Nat → Int32} {k : Nat} (h : ¬ K k = 2) : fSet K S k = S k := if_neg h
theorem aR_is {n : Nat} {K V S : Nat → Int32} {v : Int32} {c : Nat} (hc : c ≤ 10) : aR n K V S v c = pT (tD K S) n * aC n K V S v c := by
  unfold aR aC
  refine SU_dull n (fun β => pI n K V S v β (n - 1)) (fun k hk β => ?_)
  by_cases s : K k = 2
  · by_cases e : fSet K S k = S k
    · have e0 : sg K S (ub β k 1) = sg K S (ub β k 0) := by
        funext j
        unfold sg
        by_cases q : j = k
        · subst q; rw [ub_s, ub_s, if_neg (by omega), if_pos rfl]; exact e
        · rw [ub_n q, ub_n q]
      have e1 : ∀ p, pI n K V S v (ub β k 1) p = pI n K V S v (ub β k 0) p := by
        intro p
        induction p with
        | zero => rfl
        | succ p ih => rw [pI, pI, ih]; unfold iS; rw [e0]
      have r0 : wQ K c k 0 = 10 - c := by unfold wQ; rw [if_pos s, if_pos rfl]
      have r1 : wQ K c k 1 = c := by unfold wQ; rw [if_pos s, if_neg (by omega)]
      have w0 : wC n K S c k 0 = 1 := by unfold wC; rw [if_neg (fun q => q.2 e)]
      have w1 : wC n K S c k 1 = 0 := by unfold wC; rw [if_neg (fun q => q.2 e)]
      have t1 : tD K S k = 10 := by unfold tD; rw [if_pos ⟨s, e⟩]
      show wQ K c k 0 * pI n K V S v (ub β k 0) (n - 1) + wQ K c k 1 * pI n K V S v (ub β k 1) (n - 1) = tD K S k * (wC n K S c k 0 * pI n K V S v (ub β k 0) (n - 1) + wC n K S c k 1 * pI n K V S v (ub β k 1) (n - 1))
      rw [r0, r1, w0, w1, t1, e1, ← Nat.add_mul, show 10 - c + c = 10 by omega, Nat.zero_mul, Nat.one_mul, Nat.add_zero]
    · have t1 : tD K S k = 1 := by unfold tD; rw [if_neg (fun q => e q.2)]
      have rw' : ∀ x, wQ K c k x = wC n K S c k x := fun x => by unfold wQ wC; rw [if_pos s, if_pos (show k < n ∧ ¬ fSet K S k = S k from ⟨hk, e⟩)]
      rw [t1, Nat.one_mul, rw', rw']
  · have e := fSet_n (S := S) s
    have t1 : tD K S k = 1 := by unfold tD; rw [if_neg (fun q => s q.1)]
    have rw' : ∀ x, wQ K c k x = wC n K S c k x := fun x => by unfold wQ wC; rw [if_neg s, if_neg (fun q => q.2 e)]
    rw [t1, Nat.one_mul, rw', rw']
theorem pT_mul (f g : Nat → Nat) : ∀ n, pT (fun k => f k * g k) n = pT f n * pT g n := by
  intro n
  induction n with
  | zero => rfl
  | succ n ih =>
    rw [pT, pT, pT, ih]
    simp only [Nat.mul_assoc, Nat.mul_left_comm]
theorem pT_of {f g : Nat → Nat} : ∀ n, (∀ k, f k = g k) → pT f n = pT g n := by
  intro n h
  rw [show f = g from funext h]
theorem bRf_is {n : Nat} {K S : Nat → Int32} : bRf n K = pT (tD K S) n * bCl n K S := by
  unfold bRf bCl
  rw [← pT_mul]
  refine pT_of n (fun k => ?_)
  unfold rF tD sF
  by_cases s : K k = 2
  · by_cases e : fSet K S k = S k
    · rw [if_pos s, if_pos ⟨s, e⟩, if_neg (fun q => q e)]
    · rw [if_pos s, if_neg (fun q => e q.2), if_pos e]
  · rw [if_neg s, if_neg (fun q => s q.1), if_neg (fun q => q (fSet_n s))]
theorem pT_le {f : Nat → Nat} (h : ∀ k, f k ≤ 10) : ∀ n, pT f n ≤ 10 ^ n := by
  intro n
  induction n with
  | zero => exact Nat.le_refl _
  | succ n ih => rw [pT, Nat.pow_succ]; exact Nat.mul_le_mul ih (h n)
theorem pT_pos {f : Nat → Nat} (h : ∀ k, 0 < f k) : ∀ n, 0 < pT f n := by
  intro n
  induction n with
  | zero => exact Nat.one_pos
  | succ n ih => rw [pT]; exact Nat.mul_pos ih (h n)
theorem ten_le {n : Nat} (h : n ≤ 12) : 10 ^ n ≤ 1000000000000 := Nat.le_trans (Nat.pow_le_pow_right (by omega) h) (Nat.le_refl _)
theorem bRf_le {n : Nat} {K : Nat → Int32} (h : n ≤ 12) : bRf n K ≤ 1000000000000 := Nat.le_trans (pT_le (fun k => by unfold rF; split <;> omega) n) (ten_le h)
theorem aR_le {n : Nat} {K V S : Nat → Int32} {v : Int32} {c : Nat} (hc : c ≤ 10) (h : n ≤ 12) : aR n K V S v c ≤ 1000000000000 := by
  refine Nat.le_trans (SU_bnd n (fun β => pI_le (n - 1))) (Nat.le_trans (pT_le (fun k => ?_) n) (ten_le h))
  unfold wQ
  split
  · rw [if_pos rfl, if_neg (by omega)]; omega
  · omega
theorem tD_pos (K S : Nat → Int32) (n : Nat) : 0 < pT (tD K S) n := pT_pos (fun k => by unfold tD; split <;> omega) n
theorem bCl_pos (K S : Nat → Int32) (n : Nat) : 0 < bCl n K S := pT_pos (fun k => by unfold sF; split <;> omega) n
theorem aC_le {n : Nat} {K V S : Nat → Int32} {v : Int32} {c : Nat} (hc : c ≤ 10) (h : n ≤ 12) : aC n K V S v c ≤ 1000000000000 := by
  have h1 := aR_le (K := K) (V := V) (S := S) (v := v) hc h
  rw [aR_is hc] at h1
  exact Nat.le_trans (Nat.le_mul_of_pos_left _ (tD_pos K S n)) h1
theorem bCl_le {n : Nat} {K S : Nat → Int32} (h : n ≤ 12) : bCl n K S ≤ 1000000000000 := by
  have h1 := bRf_le (K := K) h
  rw [bRf_is (S := S)] at h1
  exact Nat.le_trans (Nat.le_mul_of_pos_left _ (tD_pos K S n)) h1
/-- in lowest terms both are the same -/
theorem low_a {n : Nat} {K V S : Nat → Int32} {v : Int32} {c : Nat} (hc : c ≤ 10) : aR n K V S v c / Nat.gcd (aR n K V S v c) (bRf n K) = aC n K V S v c / Nat.gcd (bCl n K S) (aC n K V S v c) := by
  rw [aR_is hc, bRf_is (S := S), Nat.gcd_mul_left, Nat.mul_div_mul_left _ _ (tD_pos K S n), Nat.gcd_comm]
theorem low_b {n : Nat} {K V S : Nat → Int32} {v : Int32} {c : Nat} (hc : c ≤ 10) : bRf n K / Nat.gcd (aR n K V S v c) (bRf n K) = bCl n K S / Nat.gcd (bCl n K S) (aC n K V S v c) := by
  rw [aR_is hc, bRf_is (S := S), Nat.gcd_mul_left, Nat.mul_div_mul_left _ _ (tD_pos K S n), Nat.gcd_comm]
