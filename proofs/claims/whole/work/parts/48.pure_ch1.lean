/-! PURE: chance(), sums over who settles -/
def ub (β : Nat → Nat) (m x : Nat) : Nat → Nat := fun k => if k = m then x else β k
theorem ub_s (β : Nat → Nat) (m x : Nat) : ub β m x m = x := if_pos rfl
theorem ub_n {β : Nat → Nat} {m x k : Nat} (h : k ≠ m) : ub β m x k = β k := if_neg h
theorem ub_c {β : Nat → Nat} {m x k y : Nat} (h : k ≠ m) : ub (ub β k y) m x = ub (ub β m x) k y := by
  funext j
  unfold ub
  by_cases c : j = m
  · rw [if_pos c, if_neg (by omega), if_pos c]
  · rw [if_neg c]
    by_cases d : j = k
    · rw [if_pos d, if_pos d]
    · rw [if_neg d, if_neg d, if_neg c]
def SU : Nat → ((Nat → Nat) → Nat) → Nat
  | 0, F => F (fun _ => 0)
  | m + 1, F => SU m (fun β => F (ub β m 0) + F (ub β m 1))
theorem SU_of : ∀ (m : Nat) (F G : (Nat → Nat) → Nat), (∀ β : Nat → Nat, (∀ k, β k ≤ 1) → (∀ k, m ≤ k → β k = 0) → F β = G β) → SU m F = SU m G := by
  intro m
  induction m with
  | zero => intro F G h; exact h _ (fun _ => Nat.zero_le _) (fun _ _ => rfl)
  | succ m ih =>
    intro F G h
    rw [SU, SU]
    refine ih _ _ (fun β h1 h2 => ?_)
    have hb : ∀ x, x ≤ 1 → (∀ k, ub β m x k ≤ 1) ∧ ∀ k, m + 1 ≤ k → ub β m x k = 0 := fun x hx => ⟨fun k => by
      by_cases c : k = m
      · rw [c, ub_s]; exact hx
      · rw [ub_n c]; exact h1 k, fun k hk => by rw [ub_n (by omega)]; exact h2 k (by omega)⟩
    rw [h _ (hb 0 (by omega)).1 (hb 0 (by omega)).2, h _ (hb 1 (by omega)).1 (hb 1 (by omega)).2]
theorem SU_mul (c : Nat) : ∀ (m : Nat) (F : (Nat → Nat) → Nat), SU m (fun β => c * F β) = c * SU m F := by
  intro m
  induction m with
  | zero => intro F; rfl
  | succ m ih =>
    intro F
    rw [SU, SU, ← ih]
    refine congrArg (SU m) (funext fun β => ?_)
    exact (Nat.mul_add _ _ _).symm
theorem SU_le : ∀ (m : Nat) (F G : (Nat → Nat) → Nat), (∀ β, F β ≤ G β) → SU m F ≤ SU m G := by
  intro m
  induction m with
  | zero => intro F G h; exact h _
  | succ m ih =>
    intro F G h
    rw [SU, SU]
    exact ih _ _ (fun β => Nat.add_le_add (h _) (h _))
def pW (w : Nat → Nat → Nat) (β : Nat → Nat) : Nat → Nat
  | 0 => 1
  | m + 1 => pW w β m * w m (β m)
theorem pW_ub {w : Nat → Nat → Nat} {β : Nat → Nat} {m x : Nat} : ∀ j, j ≤ m → pW w (ub β m x) j = pW w β j := by
  intro j
  induction j with
  | zero => intro _; rfl
  | succ j ih => intro h; rw [pW, pW, ih (by omega), ub_n (by omega)]
theorem pW_s {w : Nat → Nat → Nat} {β : Nat → Nat} {m x : Nat} : pW w (ub β m x) (m + 1) = pW w β m * w m x := by rw [pW, pW_ub m (Nat.le_refl m), ub_s]
def pT (t : Nat → Nat) : Nat → Nat
  | 0 => 1
  | m + 1 => pT t m * t m
/-- who settles to no end counts but as a factor -/
def cnd (r w : Nat → Nat → Nat) (t : Nat → Nat) (F : (Nat → Nat) → Nat) (k : Nat) : Prop := ∀ β, r k 0 * F (ub β k 0) + r k 1 * F (ub β k 1) = t k * (w k 0 * F (ub β k 0) + w k 1 * F (ub β k 1))
theorem cnd_s {r w : Nat → Nat → Nat} {t : Nat → Nat} {F : (Nat → Nat) → Nat} {k m : Nat} (a b : Nat) (hk : k ≠ m) (h : cnd r w t F k) : cnd r w t (fun β => a * F (ub β m 0) + b * F (ub β m 1)) k := by
  intro β
  have h0 := h (ub β m 0)
  have h1 := h (ub β m 1)
  show r k 0 * (a * F (ub (ub β k 0) m 0) + b * F (ub (ub β k 0) m 1)) + r k 1 * (a * F (ub (ub β k 1) m 0) + b * F (ub (ub β k 1) m 1)) = t k * (w k 0 * (a * F (ub (ub β k 0) m 0) + b * F (ub (ub β k 0) m 1)) + w k 1 * (a * F (ub (ub β k 1) m 0) + b * F (ub (ub β k 1) m 1)))
  rw [ub_c hk, ub_c hk, ub_c hk, ub_c hk]
  generalize F (ub (ub β m 0) k 0) = X0 at *
  generalize F (ub (ub β m 0) k 1) = X1 at *
  generalize F (ub (ub β m 1) k 0) = Y0 at *
  generalize F (ub (ub β m 1) k 1) = Y1 at *
  have e1 : r k 0 * (a * X0 + b * Y0) + r k 1 * (a * X1 + b * Y1) = a * (r k 0 * X0 + r k 1 * X1) + b * (r k 0 * Y0 + r k 1 * Y1) := by
    simp only [Nat.mul_add, Nat.mul_left_comm]; omega
  have e2 : t k * (w k 0 * (a * X0 + b * Y0) + w k 1 * (a * X1 + b * Y1)) = a * (t k * (w k 0 * X0 + w k 1 * X1)) + b * (t k * (w k 0 * Y0 + w k 1 * Y1)) := by
    have f : w k 0 * (a * X0 + b * Y0) + w k 1 * (a * X1 + b * Y1) = a * (w k 0 * X0 + w k 1 * X1) + b * (w k 0 * Y0 + w k 1 * Y1) := by
      simp only [Nat.mul_add, Nat.mul_left_comm]; omega
    rw [f, Nat.mul_add, Nat.mul_left_comm (t k) a, Nat.mul_left_comm (t k) b]
  rw [e1, e2, h0, h1]
theorem SU_s {w : Nat → Nat → Nat} {F : (Nat → Nat) → Nat} {m : Nat} : SU (m + 1) (fun β => pW w β (m + 1) * F β) = SU m (fun β => pW w β m * (w m 0 * F (ub β m 0) + w m 1 * F (ub β m 1))) := by
  rw [SU]
  refine congrArg (SU m) (funext fun β => ?_)
  show pW w (ub β m 0) (m + 1) * F (ub β m 0) + pW w (ub β m 1) (m + 1) * F (ub β m 1) = _
  rw [pW_s, pW_s, Nat.mul_add, Nat.mul_assoc, Nat.mul_assoc]
theorem SU_dull {r w : Nat → Nat → Nat} {t : Nat → Nat} : ∀ (m : Nat) (F : (Nat → Nat) → Nat), (∀ k, k < m → cnd r w t F k) → SU m (fun β => pW r β m * F β) = pT t m * SU m (fun β => pW w β m * F β) := by
  intro m
  induction m with
  | zero => intro F _; show 1 * F _ = 1 * (1 * F _); omega
  | succ m ih =>
    intro F h
    rw [SU_s, SU_s]
    have h1 : SU m (fun β => pW r β m * (r m 0 * F (ub β m 0) + r m 1 * F (ub β m 1))) = SU m (fun β => t m * (pW r β m * (w m 0 * F (ub β m 0) + w m 1 * F (ub β m 1)))) := by
      refine congrArg (SU m) (funext fun β => ?_)
      rw [h m (by omega) β, Nat.mul_left_comm]
    rw [h1, SU_mul, ih (fun β => w m 0 * F (ub β m 0) + w m 1 * F (ub β m 1)) (fun k hk => cnd_s _ _ (by omega) (h k (by omega))), pT, ← Nat.mul_assoc, Nat.mul_comm (t m)]
theorem SU_one {w : Nat → Nat → Nat} : ∀ m, SU m (fun β => pW w β m * 1) = pT (fun k => w k 0 + w k 1) m := by
  intro m
  induction m with
  | zero => rfl
  | succ m ih =>
    rw [SU_s (F := fun _ => 1), pT, ← ih, Nat.mul_comm (SU m _), ← SU_mul]
    refine congrArg (SU m) (funext fun β => ?_)
    show pW w β m * (w m 0 * 1 + w m 1 * 1) = (w m 0 + w m 1) * (pW w β m * 1)
    rw [Nat.mul_one, Nat.mul_one, Nat.mul_one, Nat.mul_comm]
theorem SU_bnd {w : Nat → Nat → Nat} {F : (Nat → Nat) → Nat} (m : Nat) (h : ∀ β, F β ≤ 1) : SU m (fun β => pW w β m * F β) ≤ pT (fun k => w k 0 + w k 1) m := by
  rw [← SU_one]
  exact SU_le _ _ _ (fun β => Nat.mul_le_mul_left _ (h β))
def ns (f : Nat → Nat) : Nat → Nat
  | 0 => 0
  | m + 1 => ns f m + f m
theorem ns_of {f g : Nat → Nat} : ∀ m, (∀ j, j < m → f j = g j) → ns f m = ns g m := by
  intro m
  induction m with
  | zero => intro _; rfl
  | succ m ih => intro h; rw [ns, ns, ih (fun j hj => h j (by omega)), h m (by omega)]
theorem ns_add (f : Nat → Nat) (a : Nat) : ∀ b, ns f (a + b) = ns f a + ns (fun j => f (a + j)) b := by
  intro b
  induction b with
  | zero => rfl
  | succ b ih => rw [← Nat.add_assoc, ns, ih, ns]; omega
theorem ns_two (f g : Nat → Nat) : ∀ m, ns (fun j => f j + g j) m = ns f m + ns g m := by
  intro m
  induction m with
  | zero => rfl
  | succ m ih => rw [ns, ns, ns, ih]; omega
theorem ns_z {f : Nat → Nat} (a : Nat) : ∀ b, (∀ j, j < b → f (a + j) = 0) → ns f (a + b) = ns f a := by
  intro b h
  rw [ns_add, ns_of (g := fun _ => 0) b (fun j hj => h j hj)]
  have : ∀ b, ns (fun _ => 0) b = 0 := by
    intro b
    induction b with
    | zero => rfl
    | succ b ih => rw [ns, ih]
  rw [this]; omega
/-- the bits of a number, up to some -/
def bm (m s : Nat) : Nat → Nat := fun k => if k < m then s / 2 ^ k % 2 else 0
theorem bm_0 {m s : Nat} (h : s < 2 ^ m) : ub (bm m s) m 0 = bm (m + 1) s := by
  funext k
  unfold ub bm
  by_cases c : k = m
  · subst c
    rw [if_pos rfl, if_pos (by omega), Nat.div_eq_of_lt h]
  · rw [if_neg c]
    by_cases d : k < m
    · rw [if_pos d, if_pos (by omega)]
    · rw [if_neg d, if_neg (by omega)]
theorem bm_1 {m s : Nat} (h : s < 2 ^ m) : ub (bm m s) m 1 = bm (m + 1) (2 ^ m + s) := by
  funext k
  unfold ub bm
  by_cases c : k = m
  · subst c
    rw [if_pos rfl, if_pos (by omega), Nat.add_div_left _ (Nat.two_pow_pos _), Nat.div_eq_of_lt h]
  · rw [if_neg c]
    by_cases d : k < m
    · rw [if_pos d, if_pos (by omega)]
      obtain ⟨q, rfl⟩ : ∃ q, m = k + (q + 1) := ⟨m - k - 1, by omega⟩
      rw [Nat.pow_add, Nat.mul_add_div (Nat.two_pow_pos _), Nat.pow_succ, Nat.mul_comm (2 ^ q) 2, Nat.mul_add_mod]
    · rw [if_neg d, if_neg (by omega)]
theorem SU_ns : ∀ (m : Nat) (F : (Nat → Nat) → Nat), SU m F = ns (fun s => F (bm m s)) (2 ^ m) := by
  intro m
  induction m with
  | zero =>
    intro F
    show F (fun _ => 0) = 0 + F (bm 0 0)
    rw [Nat.zero_add]
    congr 1
  | succ m ih =>
    intro F
    rw [SU, ih, Nat.pow_succ, Nat.mul_two, ns_add, ← ns_two]
    exact ns_of _ (fun s hs => by rw [bm_0 hs, bm_1 hs])
/-- the greatest divisor of two numbers, by rests -/
theorem gcd_st (x y : Nat) : Nat.gcd x y = Nat.gcd y (x % y) := by rw [Nat.gcd_comm x y, Nat.gcd_rec y x, Nat.gcd_comm]
theorem mod_half {r y : Nat} (h0 : 0 < r) (h : r < y) : 2 * (y % r) < y := by
  have h1 := Nat.div_add_mod y r
  have h2 : 1 ≤ y / r := Nat.div_pos (by omega) h0
  have h3 := Nat.mod_lt y h0
  have h4 : r * 1 ≤ r * (y / r) := Nat.mul_le_mul_left r h2
  omega
theorem cmp_0 (x y : Int64) : lg_cmp x y = 0 ↔ x = y := by
  rcases cmp_3 x y with ⟨a, b⟩ | ⟨a, b⟩ | ⟨a, b⟩
  · rw [b]
    refine ⟨fun q => absurd q (by decide), fun q => ?_⟩
    subst q
    exact absurd a (by rw [Int64.lt_iff_toInt_lt]; omega)
  · exact ⟨fun _ => a, fun _ => b⟩
  · rw [b]
    refine ⟨fun q => absurd q (by decide), fun q => ?_⟩
    subst q
    exact absurd a (by rw [Int64.lt_iff_toInt_lt]; omega)
theorem l0_ne {y : Nat} (h0 : 0 < y) (h : y < 2 ^ 63) : ¬ lN y = 0 := by
  intro q
  have q : lN y = lN 0 := q
  rw [pk_lEQ h (by omega)] at q
  omega
theorem p5_gcd {Q : Int64 → Prop} : ∀ (m x y i : Nat), y < 2 ^ m → x < 2 ^ 63 → y < 2 ^ 63 → i + 2 * m ≤ 100 → Q (lN (Nat.gcd x y)) → lpX5_commonDivisor_9 Q (2 * m + 1) (lN x) (lN y) (nI i) := by
  intro m
  have z : ∀ (f x i : Nat), Q (lN (Nat.gcd x 0)) → lpX5_commonDivisor_9 Q (f + 1) (lN x) (lN 0) (nI i) := by
    intro f x i h
    rw [Nat.gcd_zero_right] at h
    unfold lpX5_commonDivisor_9
    exact ⟨fun _ => h, fun _ => ⟨fun _ => h, fun q => absurd ((cmp_0 _ _).2 rfl) q⟩⟩
  induction m with
  | zero =>
    intro x y i h1 h2 h2' h3 h
    obtain rfl : y = 0 := by have : (2 : Nat) ^ 0 = 1 := rfl; omega
    exact z 0 x i h
  | succ m ih =>
    intro x y i h1 h2 h2' h3 h
    by_cases c : y = 0
    · subst c; exact z _ x i h
    · have hr := Nat.mod_lt x (show 0 < y by omega)
      have ne := l0_ne (show 0 < y by omega) h2'
      rw [show 2 * (m + 1) + 1 = 2 * m + 1 + 1 + 1 by omega]
      unfold lpX5_commonDivisor_9
      refine ⟨fun q => absurd q (nI_ge (a := i) (b := 100) (by omega) (by decide)), fun _ => ⟨fun q => absurd ((cmp_0 _ _).1 q) ne, fun _ => ⟨ne, fun x9 e9 => ?_⟩⟩⟩
      rw [e9, nI_1, pk_lRem h2 (by omega) h2']
      rw [gcd_st] at h
      by_cases d : x % y = 0
      · rw [d] at h ⊢; exact z _ y _ h
      · have hh := mod_half (show 0 < x % y by omega) hr
        have ne2 := l0_ne (show 0 < x % y by omega) (by omega)
        unfold lpX5_commonDivisor_9
        refine ⟨fun q => absurd q (nI_ge (a := i + 1) (b := 100) (by omega) (by decide)), fun _ => ⟨fun q => absurd ((cmp_0 _ _).1 q) ne2, fun _ => ⟨ne2, fun x9 e9 => ?_⟩⟩⟩
        rw [e9, nI_1, pk_lRem h2' (by omega) (by omega)]
        rw [gcd_st] at h
        have hp : 2 ^ (m + 1) = 2 * 2 ^ m := by rw [Nat.pow_succ]; omega
        exact ih _ _ _ (by omega) (by omega) (by omega) (by omega) h
theorem p8_gcd {C : Int64 → Int64 → Prop} : ∀ (y x : Nat), x < 2 ^ 63 → y < 2 ^ 63 → (∀ z, C (lN (Nat.gcd x y)) z) → ∃ fu, lpX8_chance_288 C fu (lN x) (lN y) := by
  intro y
  induction y using Nat.strongRecOn with
  | _ y ih =>
    intro x hx hy h
    by_cases c : y = 0
    · subst c
      rw [Nat.gcd_zero_right] at h
      refine ⟨1, ?_⟩
      unfold lpX8_chance_288
      exact ⟨fun _ => h _, fun q => absurd ((cmp_0 _ _).2 rfl) q⟩
    · have ne := l0_ne (show 0 < y by omega) hy
      have hr := Nat.mod_lt x (show 0 < y by omega)
      obtain ⟨fu, hf⟩ := ih (x % y) hr y hy (by omega) (by rw [← gcd_st]; exact h)
      refine ⟨fu + 1, ?_⟩
      unfold lpX8_chance_288
      refine ⟨fun q => absurd ((cmp_0 _ _).1 q) ne, fun _ => ⟨ne, ?_⟩⟩
      rw [pk_lRem hx (by omega) hy]
      exact hf
