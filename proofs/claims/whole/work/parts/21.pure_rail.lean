/-! PURE: what a rail shows; both sides come to the same functions of its numbers -/
def slI (n : Nat) (S : Nat → Int32) (i : Int) : Int32 := if 0 ≤ i ∧ i < n then S i.toNat else 0
def fNow (n : Nat) (V S : Nat → Int32) (k : Nat) : Int32 := V k + 2 * S k - slI n S ((k : Int) - 1) - slI n S ((k : Int) + 1)
def fStep (n : Nat) (K V S : Nat → Int32) (k : Nat) : Int32 := if K k = 3 ∨ K (k + 1) = 3 then 0 else zabs (fNow n V S k - fNow n V S (k + 1))
def fReach (K B : Nat → Int32) (k : Nat) : Int32 := if K k = 4 ∨ K k = 5 then 0 else if K k = 2 then (if B k ≤ 0 then 0 else B k - 1) else B k
/-- the reference's rows: kinds, versines, bounds, slews -/
def rK (w : Nat → Int32) : Nat → Int32 := fun k => w (2 + 4 * k)
def rV (w : Nat → Int32) : Nat → Int32 := fun k => w (3 + 4 * k)
def rB (w : Nat → Int32) : Nat → Int32 := fun k => w (4 + 4 * k)
def rS (w : Nat → Int32) : Nat → Int32 := fun k => w (5 + 4 * k)
theorem cl_int {x : Int32} (h : 0 ≤ x.toInt) : x.toNatClampNeg = x.toInt.toNat := by
  have h2 := pn_rng x
  conv => lhs; rw [pn_of h]
  exact nI_clamp (by omega)
theorem vp_int {x : Int32} {n : Nat} (h : 0 ≤ x.toInt) (h2 : x.toInt < n) : vp_in x n := vp_in_iff.2 ⟨h, h2⟩
theorem t0 : (0 : Int32).toInt = 0 := rfl
theorem t1 : (1 : Int32).toInt = 1 := rfl
theorem t_m1 {k : Nat} (hk : k ≤ 10000) : (nI k - 1).toInt = (k : Int) - 1 := by rw [pn_sub (by rw [pn_n (by omega), t1]; omega) (by rw [pn_n (by omega), t1]; omega), pn_n (by omega), t1]
theorem t_p1 {k : Nat} (hk : k ≤ 10000) : (nI k + 1).toInt = (k : Int) + 1 := by rw [nI_1, pn_n (by omega)]; omega
theorem p2_slewAt {M : zM} {o n : Nat} {x : Int32} {Q : Int32 → Prop} (hn : M o 0 = nI n) (h12 : n ≤ 12) (h : Q (slI n (M (o + 4)) x.toInt)) : wX2_slewAt M o x Q := by
  unfold wX2_slewAt
  unfold slI at h
  rw [hn]
  refine ⟨fun c => ?_, fun c => ⟨fun d => ?_, fun d => ?_⟩⟩
  · rw [pn_lt, t0] at c; rwa [if_neg (by omega)] at h
  · rw [pn_lt, t0] at c
    rw [pn_lt, pn_n (by omega)] at d
    rw [if_pos (by omega)] at h
    rw [cl_int (by omega)]
    exact ⟨vp_int (by omega) (by omega), h⟩
  · rw [pn_lt, pn_n (by omega)] at d; rwa [if_neg (by omega)] at h
theorem p2_now {M : zM} {o n k : Nat} {Q : Int32 → Prop} (hn : M o 0 = nI n) (h12 : n ≤ 12) (hk : k < n) (h : Q (fNow n (M (o + 2)) (M (o + 4)) k)) : wX2_now M o (nI k) Q := by
  unfold wX2_now
  rw [cl_of (by omega)]
  refine ⟨vp_of (by omega) (by omega), vp_of (by omega) (by omega), fun x4 e4 => p2_slewAt hn h12 (p2_slewAt hn h12 ?_)⟩
  rw [t_m1 (by omega), t_p1 (by omega), e4]
  exact h
theorem nI_4c (k c : Nat) : (2 : Int32) + 4 * nI k + nI c = nI (2 + 4 * k + c) := by rw [nI_4, nI_add]
theorem p8_slewOf {M : zM} {o n n0 : Nat} {x : Int32} {Q : Int32 → Prop} (h0 : 50 ≤ n0) (h1 : n0 ≤ 10000) (hn : M o 0 = nI n) (h12 : n ≤ 12) (h : Q (slI n (rS (M o)) x.toInt)) : wX8_slewOf M o n0 x Q := by
  unfold wX8_slewOf
  refine ⟨vp_of (n := 0) (by omega) (by omega), fun x4 e4 => p8_in ?_⟩
  have e4' : x4 = nI n - 1 := by rw [e4]; show M o 0 - 1 = _; rw [hn]
  unfold slI at h
  refine ⟨fun c => ?_, fun c x6 e6 => ?_⟩
  · rw [zin_0, pn_lt, pn_lt, t0, e4', t_m1 (by omega)] at c; rwa [if_neg (by omega)] at h
  · obtain ⟨z1, z2⟩ := zin_in c
    rw [t0] at z1
    rw [e4', t_m1 (by omega)] at z2
    rw [if_pos (by omega)] at h
    rw [pn_of z1, show (3 : Int32) = nI 3 from rfl, nI_4c] at e6
    rw [e6, cl_of (by omega), show 2 + 4 * x.toInt.toNat + 3 = 5 + 4 * x.toInt.toNat by omega]
    exact ⟨vp_of (by omega) (by omega), h⟩
theorem p8_nowOf {M : zM} {o n n0 k : Nat} {Q : Int32 → Prop} (h0 : 50 ≤ n0) (h1 : n0 ≤ 10000) (hn : M o 0 = nI n) (h12 : n ≤ 12) (hk : k < n) (h : Q (fNow n (rV (M o)) (rS (M o)) k)) : wX8_nowOf M o n0 (nI k) Q := by
  unfold wX8_nowOf
  intro x4 e4
  rw [show (1 : Int32) = nI 1 from rfl, nI_4c] at e4
  rw [e4, cl_of (by omega)]
  refine ⟨vp_of (by omega) (by omega), p8_slewOf h0 h1 hn h12 (p8_slewOf h0 h1 hn h12 ?_)⟩
  intro x7 e7
  refine p8_slewOf h0 h1 hn h12 ?_
  rw [e7, t_m1 (by omega), t_p1 (by omega), pn_n (by omega)]
  have hs : slI n (rS (M o)) (k : Int) = rS (M o) k := by unfold slI; rw [if_pos (by omega), Int.toNat_natCast]
  rw [hs, show 2 + 4 * k + 1 = 3 + 4 * k by omega]
  exact h
theorem p2_isEased {M : zM} {o n k : Nat} {Q : Int32 → Prop} (hn : M o 0 = nI n) (h12 : n ≤ 12) (hk : k + 1 < n) (h : Q (if M (o + 1) k = 3 ∨ M (o + 1) (k + 1) = 3 then 1 else 0)) : wX2_isEased M o (nI k) Q := by
  unfold wX2_isEased
  rw [hn, nI_1, cl_of (by omega), cl_of (by omega)]
  refine ⟨fun c => absurd c (nI_pos (by omega)), fun _ => ⟨fun c => ?_, fun _ => ⟨vp_of (by omega) (by omega), fun c => ?_, fun c => ⟨vp_of (by omega) (by omega), fun d => ?_, fun d => ?_⟩⟩⟩⟩
  · rw [pn_le, t_m1 (by omega), pn_n (by omega)] at c; omega
  · rwa [if_pos (Or.inl c)] at h
  · rwa [if_neg (fun q => q.elim c d)] at h
  · rwa [if_pos (Or.inr d)] at h
theorem p8_isLoose {M : zM} {o n0 k : Nat} {Q : Int32 → Prop} (h0 : 50 ≤ n0) (h1 : n0 ≤ 10000) (hk : k < 11) (h : Q (if rK (M o) k = 3 ∨ rK (M o) (k + 1) = 3 then 1 else 0)) : wX8_isLoose M o n0 (nI k) Q := by
  unfold wX8_isLoose
  rw [nI_4, cl_of (by omega)]
  refine ⟨vp_of (by omega) (by omega), fun x4 e4 => ⟨fun c => ?_, fun c x5 e5 => ?_⟩⟩
  · rw [e4] at c
    have c : rK (M o) k = 3 := c
    rwa [if_pos (Or.inl c)] at h
  · rw [show (4 : Int32) = nI 4 from rfl, nI_add] at e5
    rw [e5, cl_of (by omega), show 2 + 4 * k + 4 = 2 + 4 * (k + 1) by omega]
    rw [e4] at c
    have c : ¬ rK (M o) k = 3 := c
    refine ⟨vp_of (by omega) (by omega), fun d => ?_, fun d => ?_⟩
    · have d : ¬ rK (M o) (k + 1) = 3 := d
      rwa [if_neg (fun q => q.elim c d)] at h
    · have d : rK (M o) (k + 1) = 3 := d
      rwa [if_pos (Or.inr d)] at h
theorem p8_size {M : zM} {x : Int32} {Q : Int32 → Prop} (h : Q (zabs x)) : wX8_size M x Q := by
  unfold wX8_size
  unfold zabs at h
  exact ⟨fun c => by rwa [if_pos c] at h, fun c => by rw [if_neg c, Int32.zero_sub] at h; exact h⟩
theorem p2_step {M : zM} {o n k : Nat} {Q : Int32 → Prop} (hn : M o 0 = nI n) (h12 : n ≤ 12) (hk : k + 1 < n) (h : Q (fStep n (M (o + 1)) (M (o + 2)) (M (o + 4)) k)) : wX2_step M o (nI k) Q := by
  unfold wX2_step
  refine p2_isEased hn h12 hk ?_
  unfold fStep at h
  by_cases c : M (o + 1) k = 3 ∨ M (o + 1) (k + 1) = 3
  · rw [if_pos c] at h ⊢
    exact ⟨fun q => absurd q (by decide), fun _ => h⟩
  · rw [if_neg c] at h ⊢
    refine ⟨fun _ => p2_now hn h12 (by omega) ?_, fun q => absurd rfl q⟩
    rw [nI_1]
    exact p2_now hn h12 (by omega) h
theorem p8_step {M : zM} {o n n0 k : Nat} {Q : Int32 → Prop} (h0 : 50 ≤ n0) (h1 : n0 ≤ 10000) (hn : M o 0 = nI n) (h12 : n ≤ 12) (hk : k + 1 < n) (h : Q (fStep n (rK (M o)) (rV (M o)) (rS (M o)) k)) : wX8_step M o n0 (nI k) Q := by
  unfold wX8_step
  refine p8_isLoose h0 h1 (by omega) ?_
  unfold fStep at h
  by_cases c : rK (M o) k = 3 ∨ rK (M o) (k + 1) = 3
  · rw [if_pos c] at h ⊢
    exact ⟨fun q => absurd q (by decide), fun _ => h⟩
  · rw [if_neg c] at h ⊢
    refine ⟨fun _ => p8_nowOf h0 h1 hn h12 (by omega) ?_, fun q => absurd rfl q⟩
    rw [nI_1]
    exact p8_nowOf h0 h1 hn h12 (by omega) (p8_size h)
theorem p2_reach {M : zM} {o n k : Nat} {Q : Int32 → Prop} (hn : M o 0 = nI n) (h12 : n ≤ 12) (hk : k < n) (hb : 0 ≤ (M (o + 3) k).toInt ∧ (M (o + 3) k).toInt ≤ 3) (h : Q (fReach (M (o + 1)) (M (o + 3)) k)) : wX2_reach M o (nI k) Q := by
  unfold wX2_reach
  rw [hn, cl_of (by omega)]
  unfold fReach at h
  refine ⟨fun c => absurd c (nI_pos (by omega)), fun _ => ⟨fun c => absurd c (nI_ge hk (by omega)), fun _ => ⟨vp_of (by omega) (by omega), fun c => by rwa [if_pos (Or.inl c)] at h, fun c => ⟨vp_of (by omega) (by omega), fun d => ⟨vp_of (by omega) (by omega), fun f => ⟨vp_of (by omega) (by omega), by rwa [if_neg (fun q => q.elim c d), if_neg f] at h⟩, fun f => ⟨vp_of (by omega) (by omega), fun x ex => ?_⟩⟩, fun d => by rwa [if_pos (Or.inr d)] at h⟩⟩⟩⟩
  rw [if_neg (fun q => q.elim c d), if_pos f] at h
  have e1 : (M (o + 3) k - 1).toInt = (M (o + 3) k).toInt - 1 := by rw [pn_sub (by rw [t1]; omega) (by rw [t1]; omega), t1]
  rw [ex]
  unfold zmax
  by_cases g : M (o + 3) k ≤ 0
  · rw [if_pos g] at h
    rw [pn_le, t0] at g
    rw [if_neg (by rw [pn_lt, t0, e1]; omega)]
    exact h
  · rw [if_neg g] at h
    rw [pn_le, t0] at g
    by_cases g2 : (0 : Int32) < M (o + 3) k - 1
    · rw [if_pos g2]; exact h
    · rw [if_neg g2]
      rw [pn_lt, t0, e1] at g2
      have : M (o + 3) k - 1 = 0 := by rw [pn_eq, e1, t0]; omega
      rwa [this] at h
theorem p8_reach {M : zM} {o n0 k : Nat} {Q : Int32 → Prop} (h0 : 50 ≤ n0) (h1 : n0 ≤ 10000) (hk : k < 12) (h : Q (fReach (rK (M o)) (rB (M o)) k)) : wX8_reach M o n0 (nI k) Q := by
  unfold wX8_reach
  intro x4 e4
  rw [show (((2 : Int32) + 4 * nI k) + 2) = nI (2 + 4 * k + 2) from nI_4c k 2] at e4
  rw [nI_4, cl_of (by omega), e4, cl_of (by omega), show 2 + 4 * k + 2 = 4 + 4 * k by omega]
  refine ⟨vp_of (by omega) (by omega), vp_of (by omega) (by omega), fun x5 e5 => ?_⟩
  unfold fReach at h
  have ek : x5 = rK (M o) k := e5
  have i4 : rK (M o) k = 4 ↔ x5.toInt = 4 := by rw [← ek, pn_eq]; exact Iff.rfl
  have i5 : rK (M o) k = 5 ↔ x5.toInt = 5 := by rw [← ek, pn_eq]; exact Iff.rfl
  have i2 : rK (M o) k = 2 ↔ x5.toInt = 2 := by rw [← ek, pn_eq]; exact Iff.rfl
  have n45 : ¬ x5.toInt = 4 → ¬ x5.toInt = 5 → ¬ (rK (M o) k = 4 ∨ rK (M o) k = 5) := fun a b q => q.elim (fun q => a (i4.1 q)) (fun q => b (i5.1 q))
  refine ⟨fun c => ?_, fun c => ⟨fun d => ?_, fun d => ?_⟩, fun c => ?_, fun c => ?_, fun c => ?_⟩
  · rwa [if_neg (n45 (by omega) (by omega)), if_neg (fun q => by have := i2.1 q; omega)] at h
  · have d : rB (M o) k ≤ 0 := d
    rwa [if_neg (n45 (by omega) (by omega)), if_pos (i2.2 c), if_pos d] at h
  · have d : ¬ rB (M o) k ≤ 0 := d
    rwa [if_neg (n45 (by omega) (by omega)), if_pos (i2.2 c), if_neg d] at h
  · rwa [if_neg (n45 (by omega) (by omega)), if_neg (fun q => by have := i2.1 q; omega)] at h
  · rwa [if_pos (Or.inl (i4.2 c))] at h
  · rwa [if_pos (Or.inr (i5.2 c))] at h
