/-! PURE: chance(), the class's ways -/
def sg (K S : Nat → Int32) (β : Nat → Nat) : Nat → Int32 := fun k => if β k = 0 then S k else fSet K S k
def iS (n : Nat) (K V S : Nat → Int32) (v : Int32) (β : Nat → Nat) (q : Nat) : Nat := if fStep n K V (sg K S β) q ≤ v then 1 else 0
def pI (n : Nat) (K V S : Nat → Int32) (v : Int32) (β : Nat → Nat) : Nat → Nat
  | 0 => 1
  | p + 1 => pI n K V S v β p * iS n K V S v β p
def wC (n : Nat) (K S : Nat → Int32) (c k x : Nat) : Nat := if k < n ∧ ¬ fSet K S k = S k then (if x = 0 then 10 - c else c) else 1 - x
theorem slI_loc {n : Nat} {S S' : Nat → Int32} {i : Int} (h : 0 ≤ i → i < n → S i.toNat = S' i.toNat) : slI n S i = slI n S' i := by
  unfold slI
  by_cases c : 0 ≤ i ∧ i < n
  · rw [if_pos c, if_pos c, h c.1 c.2]
  · rw [if_neg c, if_neg c]
theorem fNow_loc {n k : Nat} {V S S' : Nat → Int32} (hk : k < n) (h : ∀ j, j < n → k ≤ j + 1 → j ≤ k + 1 → S j = S' j) : fNow n V S k = fNow n V S' k := by
  unfold fNow
  rw [h k hk (by omega) (by omega), slI_loc (S := S) (S' := S') (i := (k : Int) - 1) (fun a b => h _ (by omega) (by omega) (by omega)), slI_loc (S := S) (S' := S') (i := (k : Int) + 1) (fun a b => h _ (by omega) (by omega) (by omega))]
theorem fStep_loc {n k : Nat} {K V S S' : Nat → Int32} (hk : k + 1 < n) (h : ∀ j, j < n → k ≤ j + 1 → j ≤ k + 2 → S j = S' j) : fStep n K V S k = fStep n K V S' k := by
  unfold fStep
  rw [fNow_loc (S := S) (S' := S') (show k < n by omega) (fun j h1 h2 h3 => h j h1 h2 (by omega)), fNow_loc (S := S) (S' := S') hk (fun j h1 h2 h3 => h j h1 (by omega) h3)]
theorem iS_loc {n q : Nat} {K V S : Nat → Int32} {v : Int32} {β β' : Nat → Nat} (hq : q + 1 < n) (h : ∀ j, j < n → q ≤ j + 1 → j ≤ q + 2 → β j = β' j) : iS n K V S v β q = iS n K V S v β' q := by
  unfold iS
  rw [fStep_loc (S := sg K S β) (S' := sg K S β') hq (fun j h1 h2 h3 => by unfold sg; rw [h j h1 h2 h3])]
theorem pI_ub {n : Nat} {K V S : Nat → Int32} {v : Int32} {β : Nat → Nat} {m x : Nat} : ∀ p, p + 1 ≤ n → p + 2 ≤ m + (if m < n then 0 else 13) → n ≤ 12 → pI n K V S v (ub β m x) p = pI n K V S v β p := by
  intro p
  induction p with
  | zero => intro _ _ _; rfl
  | succ p ih =>
    intro h1 h2 h3
    rw [pI, pI, ih (by omega) (by omega) h3, iS_loc (β := ub β m x) (β' := β) (by omega) (fun j j1 j2 j3 => ub_n (by split at h2 <;> omega))]
theorem pI_le {n : Nat} {K V S : Nat → Int32} {v : Int32} {β : Nat → Nat} : ∀ p, pI n K V S v β p ≤ 1 := by
  intro p
  induction p with
  | zero => exact Nat.le_refl _
  | succ p ih =>
    have : iS n K V S v β p ≤ 1 := by unfold iS; split <;> omega
    rw [pI]
    exact Nat.le_trans (Nat.mul_le_mul ih this) (Nat.le_refl _)
theorem p2_setI {M : zM} {o n : Nat} {x : Int32} {Q : Int32 → Prop} (hn : M o 0 = nI n) (h12 : n ≤ 12) (h : Q (slI n (fSet (M (o + 1)) (M (o + 4))) x.toInt)) : wX2_settledAt M o x Q := by
  unfold slI at h
  by_cases c : 0 ≤ x.toInt ∧ x.toInt < n
  · rw [if_pos c] at h
    rw [pn_of c.1]
    exact p2_settledAt hn h12 (by omega) h
  · rw [if_neg c] at h
    unfold wX2_settledAt
    refine p2_slewAt hn h12 ?_
    rw [show slI n (M (o + 4)) x.toInt = 0 by unfold slI; rw [if_neg c]]
    unfold wX2_isSoft
    rw [hn]
    refine ⟨fun _ => ⟨fun _ => h, fun q => absurd rfl q⟩, fun d => ⟨fun _ => ⟨fun _ => h, fun q => absurd rfl q⟩, fun e => ?_⟩⟩
    exfalso
    rw [pn_lt, t0] at d
    rw [pn_le, pn_n (by omega)] at e
    omega
section CH
variable {M : zM} {n : Nat} {K V S : Nat → Int32}
/-- a rail of the class, but for its bounds -/
def cr (M : zM) (n : Nat) (K V S : Nat → Int32) : Prop := M 20 0 = nI n ∧ n ≤ 12 ∧ M 21 = K ∧ M 22 = V ∧ M 24 = S
theorem p5_settles {k : Nat} {Q : Int32 → Prop} (hc : cr M n K V S) (hk : k ≤ 100) (h : Q (if k < n ∧ ¬ fSet K S k = S k then 1 else 0)) : wX5_settles M 20 (nI k) Q := by
  obtain ⟨h1, h2, h3, h4, h5⟩ := hc
  unfold wX5_settles
  refine p2_setI h1 h2 (p2_slewAt h1 h2 ?_)
  rw [pn_n (by omega), show M (20 + 1) = K from h3, show M (20 + 4) = S from h5]
  unfold slI
  by_cases c : k < n
  · rw [if_pos (by omega), if_pos (by omega), Int.toNat_natCast]
    refine ⟨fun q => ?_, fun q => ?_⟩
    · rwa [if_neg (fun y => y.2 q)] at h
    · rwa [if_pos ⟨c, q⟩] at h
  · rw [if_neg (by omega), if_neg (by omega)]
    rw [if_neg (fun y => c y.1)] at h
    exact ⟨fun _ => h, fun q => absurd rfl q⟩
theorem p5_waysOf {k x c : Nat} {Q : Int32 → Prop} (hc : cr M n K V S) (h0 : M 165 0 = nI c) (hc10 : c ≤ 10) (hk : k ≤ 100) (hx : x ≤ 1) (h : Q (nI (wC n K S c k x))) : wX5_waysOf M 165 20 (nI k) (nI x) Q := by
  unfold wX5_waysOf
  refine p5_settles hc hk ?_
  unfold wC at h
  by_cases q : k < n ∧ ¬ fSet K S k = S k
  · rw [if_pos q] at h ⊢
    rw [h0]
    refine ⟨fun _ => ⟨fun z => ?_, fun z => ?_⟩, fun z => absurd z (by decide)⟩
    · rwa [if_neg (fun y => z (by rw [y]; rfl))] at h
    · have z : nI x = nI 0 := z
      rw [nI_eq (by omega) (by omega)] at z
      rw [if_pos z] at h
      rw [show (10 : Int32) = nI 10 from rfl, pk_sub hc10]
      exact h
  · rw [if_neg q] at h ⊢
    refine ⟨fun z => absurd rfl z, fun _ => ?_⟩
    rw [show (1 : Int32) = nI 1 from rfl, pk_sub hx]
    exact h
theorem p5_slewBy {b : Nat} {x : Int32} {β : Nat → Nat} {Q : Int32 → Prop} (hc : cr M n K V S) (hb : b ≤ 1) (hβ : 0 ≤ x.toInt → x.toInt < n → β x.toInt.toNat = b) (h : Q (slI n (sg K S β) x.toInt)) : wX5_slewBy M 20 x (nI b) Q := by
  obtain ⟨h1, h2, h3, h4, h5⟩ := hc
  unfold wX5_slewBy
  refine ⟨fun z => p2_setI h1 h2 ?_, fun z => p2_slewAt h1 h2 ?_⟩
  · have z : ¬ b = 0 := fun y => z (by rw [y]; rfl)
    rw [show M (20 + 1) = K from h3, show M (20 + 4) = S from h5, slI_loc (S' := sg K S β) (fun a c => by unfold sg; rw [if_neg (by rw [hβ a c]; exact z)])]
    exact h
  · have z : nI b = nI 0 := z
    rw [nI_eq (by omega) (by omega)] at z
    rw [show M (20 + 4) = S from h5, slI_loc (S' := sg K S β) (fun a c => by unfold sg; rw [if_pos (by rw [hβ a c]; exact z)])]
    exact h
theorem ch_bits : ∀ ch, ch < 16 → ((nI ch >>> ((3 : Int32) &&& 31)) &&& (1 : Int32)) = nI (ch / 8 % 2) ∧ ((nI ch >>> ((2 : Int32) &&& 31)) &&& (1 : Int32)) = nI (ch / 4 % 2) ∧ ((nI ch >>> ((1 : Int32) &&& 31)) &&& (1 : Int32)) = nI (ch / 2 % 2) ∧ (nI ch &&& (1 : Int32)) = nI (ch % 2) := by decide +kernel
theorem ring_1 (v1 v2 a b c d : Int32) : v1 - v2 + 3 * (b - c) - a + d = v1 + 2 * b - a - c - (v2 + 2 * c - b - d) := by grind
theorem p5_stepBy {p ch : Nat} {β : Nat → Nat} {Q : Int32 → Prop} (hc : cr M n K V S) (hp : p + 1 < n) (hch : ch < 16) (b0 : 1 ≤ p → β (p - 1) = ch / 8 % 2) (b1 : β p = ch / 4 % 2) (b2 : β (p + 1) = ch / 2 % 2) (b3 : p + 2 < n → β (p + 2) = ch % 2) (h : Q (fStep n K V (sg K S β) p)) : wX5_stepBy M 20 (nI p) (nI ch) Q := by
  obtain ⟨h1, h2, h3, h4, h5⟩ := id hc
  obtain ⟨c1, c2, c3, c4⟩ := ch_bits ch hch
  unfold wX5_stepBy
  refine p2_isEased h1 h2 hp ?_
  rw [show M (20 + 1) = K from h3, show M (20 + 2) = V from h4, c1, c2, c3, c4]
  unfold fStep at h
  by_cases q : K p = 3 ∨ K (p + 1) = 3
  · rw [if_pos q] at h ⊢
    exact ⟨fun z => absurd z (by decide), fun _ => h⟩
  · rw [if_neg q] at h ⊢
    refine ⟨fun _ x6 e6 => ?_, fun z => absurd rfl z⟩
    rw [e6]
    refine p5_slewBy (β := β) hc (by omega) (fun a b => ?_) (fun x8 e8 => ?_)
    · rw [t_m1 (by omega)] at a b ⊢
      rw [show ((p : Int) - 1).toNat = p - 1 by omega]
      exact b0 (by omega)
    · rw [e8]
      refine p5_slewBy (β := β) hc (by omega) (fun a b => ?_) (fun x10 e10 => ?_)
      · rw [pn_n (by omega), Int.toNat_natCast]; exact b1
      · rw [e10]
        refine p5_slewBy (β := β) hc (by omega) (fun a b => ?_) (p5_slewBy (β := β) hc (by omega) (fun a b => ?_) ?_)
        · rw [t_p1 (by omega), show ((p : Int) + 1).toNat = p + 1 by omega]; exact b2
        · rw [t_p2 (by omega)] at b ⊢
          rw [show ((p : Int) + 2).toNat = p + 2 by omega]
          exact b3 (by omega)
        · rw [t_m1 (by omega), t_p1 (by omega), t_p2 (by omega), pn_n (by omega), nI_1, cl_of (by omega), cl_of (by omega)]
          refine ⟨vp_of (by omega) (by omega), vp_of (by omega) (by omega), fun x13 e13 x14 e14 => ?_⟩
          have e : x14 = fNow n V (sg K S β) p - fNow n V (sg K S β) (p + 1) := by
            rw [e14, e13]
            unfold fNow
            rw [show ((p + 1 : Nat) : Int) - 1 = (p : Int) by omega, show ((p + 1 : Nat) : Int) + 1 = (p : Int) + 2 by omega, show (p : Int) + 1 = ((p + 1 : Nat) : Int) by omega, slI_in (show p < n by omega), slI_in hp]
            exact ring_1 _ _ _ _ _ _
          rw [e]; exact h
end CH
theorem pL_fill {M : zM} {J : zL} {o : Nat} {y : Int64} {Q : zM → zL → Prop} (h : ∀ J', (∀ x, x ≠ o → J' x = J x) → (∀ k, k < 8 → J' o k = y) → Q M J') : wJ7_fill_d0a16 M J o y Q := by
  unfold wJ7_fill_d0a16
  have key : ∀ d i, i + d = 8 → ∀ J' : zL, (∀ x, x ≠ o → J' x = J x) → (∀ k, k < i → J' o k = y) → lpJ7_fill_d0a16_6 M o y Q (d + 1) (nI i) J' := by
    intro d
    induction d with
    | zero =>
      intro i hi J' f z
      obtain rfl : i = 8 := by omega
      unfold lpJ7_fill_d0a16_6
      exact ⟨fun _ => h J' f z, fun q => absurd (show (8 : Int32) ≤ nI 8 by decide) q⟩
    | succ d ih =>
      intro i hi J' f z
      unfold lpJ7_fill_d0a16_6
      refine ⟨fun q => absurd q (nI_ge (a := i) (b := 8) (by omega) (by decide)), fun _ => ⟨vp_of (by omega) (by omega), fun J7 e7 x8 e8 => ?_⟩⟩
      rw [e8, nI_1]
      refine ih (i + 1) (by omega) J7 (fun x hx => by rw [e7, va_up_ne _ _ hx]; exact f x hx) (fun k hk => ?_)
      rw [e7, va_up_self, cl_of (by omega)]
      by_cases c : k = i
      · subst c; exact pk_uLs
      · rw [pk_uLn c]; exact z k (by omega)
  exact ⟨_, key 8 0 (by omega) J (fun _ _ => rfl) (fun k hk => by omega)⟩
