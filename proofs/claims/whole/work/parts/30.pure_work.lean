/-! PURE: a reference's row as kinds, versines, bounds, slews; work() -/
def rowOf (w : Nat → Int32) (n : Nat) (W : Int32) (K V B S : Nat → Int32) : Prop := w 0 = nI n ∧ w 1 = W ∧ (∀ k, k < n → rK w k = K k) ∧ (∀ k, k < n → rV w k = V k) ∧ (∀ k, k < n → rB w k = B k) ∧ (∀ k, k < n → rS w k = S k)
theorem row_self {w : Nat → Int32} {n : Nat} (h : w 0 = nI n) : rowOf w n (w 1) (rK w) (rV w) (rB w) (rS w) := ⟨h, rfl, fun _ _ => rfl, fun _ _ => rfl, fun _ _ => rfl, fun _ _ => rfl⟩
theorem row_of {w : Nat → Int32} {n : Nat} {W W' : Int32} {K V B S K' V' B' S' : Nat → Int32} (h : rowOf w n W K V B S) (hW : W = W') (hK : ∀ k, k < n → K k = K' k) (hV : ∀ k, k < n → V k = V' k) (hB : ∀ k, k < n → B k = B' k) (hS : ∀ k, k < n → S k = S' k) : rowOf w n W' K' V' B' S' :=
  ⟨h.1, h.2.1.trans hW, fun k hk => (h.2.2.1 k hk).trans (hK k hk), fun k hk => (h.2.2.2.1 k hk).trans (hV k hk), fun k hk => (h.2.2.2.2.1 k hk).trans (hB k hk), fun k hk => (h.2.2.2.2.2 k hk).trans (hS k hk)⟩
theorem row_rel {M : zM} {o n : Nat} {w : Nat → Int32} (h : rel M o w 0) (hn : M o 0 = nI n) (h12 : n ≤ 12) : rowOf w n (M o 1) (M (o + 1)) (M (o + 2)) (M (o + 3)) (M (o + 4)) := by
  have r : rn M o = n := by unfold rn; rw [hn]; exact cl_of (by omega)
  obtain ⟨a, b, c, d⟩ := rel_fun h r
  exact ⟨h.1.trans hn, h.2.1, a, b, c, d⟩
theorem rel_row {M : zM} {o n : Nat} {w : Nat → Int32} (h : rowOf w n (M o 1) (M (o + 1)) (M (o + 2)) (M (o + 3)) (M (o + 4))) (hn : M o 0 = nI n) (h12 : n ≤ 12) : rel M o w 0 := by
  have r : rn M o = n := by unfold rn; rw [hn]; exact cl_of (by omega)
  refine ⟨h.1.trans hn.symm, h.2.1, fun k hk => ?_⟩
  rw [r] at hk
  rw [show 0 + 2 + 4 * k = 2 + 4 * k by omega, show 0 + 3 + 4 * k = 3 + 4 * k by omega, show 0 + 4 + 4 * k = 4 + 4 * k by omega, show 0 + 5 + 4 * k = 5 + 4 * k by omega]
  exact ⟨h.2.2.1 k hk, h.2.2.2.1 k hk, h.2.2.2.2.1 k hk, h.2.2.2.2.2 k hk⟩
theorem row_S {w : Nat → Int32} {n k : Nat} {W v : Int32} {K V B S : Nat → Int32} (h : rowOf w n W K V B S) : rowOf (upd w (5 + 4 * k) v) n W K V B (upd S k v) := by
  obtain ⟨a, b, c, d, e, f⟩ := h
  refine ⟨by rw [pk_un (by omega)]; exact a, by rw [pk_un (by omega)]; exact b, fun j hj => ?_, fun j hj => ?_, fun j hj => ?_, fun j hj => ?_⟩
  · exact (pk_un (show 2 + 4 * j ≠ 5 + 4 * k by omega)).trans (c j hj)
  · exact (pk_un (show 3 + 4 * j ≠ 5 + 4 * k by omega)).trans (d j hj)
  · exact (pk_un (show 4 + 4 * j ≠ 5 + 4 * k by omega)).trans (e j hj)
  · by_cases q : j = k
    · subst q; rw [pk_us]; exact pk_us
    · rw [pk_un q]; exact (pk_un (show 5 + 4 * j ≠ 5 + 4 * k by omega)).trans (f j hj)
theorem row_V {w : Nat → Int32} {n k : Nat} {W v : Int32} {K V B S : Nat → Int32} (h : rowOf w n W K V B S) : rowOf (upd w (3 + 4 * k) v) n W K (upd V k v) B S := by
  obtain ⟨a, b, c, d, e, f⟩ := h
  refine ⟨by rw [pk_un (by omega)]; exact a, by rw [pk_un (by omega)]; exact b, fun j hj => ?_, fun j hj => ?_, fun j hj => ?_, fun j hj => ?_⟩
  · exact (pk_un (show 2 + 4 * j ≠ 3 + 4 * k by omega)).trans (c j hj)
  · by_cases q : j = k
    · subst q; rw [pk_us]; exact pk_us
    · rw [pk_un q]; exact (pk_un (show 3 + 4 * j ≠ 3 + 4 * k by omega)).trans (d j hj)
  · exact (pk_un (show 4 + 4 * j ≠ 3 + 4 * k by omega)).trans (e j hj)
  · exact (pk_un (show 5 + 4 * j ≠ 3 + 4 * k by omega)).trans (f j hj)
theorem row_W {w : Nat → Int32} {n : Nat} {W v : Int32} {K V B S : Nat → Int32} (h : rowOf w n W K V B S) : rowOf (upd w 1 v) n v K V B S := by
  obtain ⟨a, b, c, d, e, f⟩ := h
  exact ⟨by rw [pk_un (by omega)]; exact a, pk_us, fun j hj => (pk_un (show 2 + 4 * j ≠ 1 by omega)).trans (c j hj), fun j hj => (pk_un (show 3 + 4 * j ≠ 1 by omega)).trans (d j hj), fun j hj => (pk_un (show 4 + 4 * j ≠ 1 by omega)).trans (e j hj), fun j hj => (pk_un (show 5 + 4 * j ≠ 1 by omega)).trans (f j hj)⟩
/-- the first i of one, then of the other -/
def mix (i : Nat) (f g : Nat → Int32) : Nat → Int32 := fun k => if k < i then f k else g k
theorem mix_0 (f g : Nat → Int32) : mix 0 f g = g := by funext k; unfold mix; rw [if_neg (by omega)]
theorem mix_s (i : Nat) (f g : Nat → Int32) : upd (mix i f g) i (f i) = mix (i + 1) f g := by
  funext k
  unfold upd mix
  by_cases h : k = i
  · subst h; rw [if_pos rfl, if_pos (by omega)]
  · rw [if_neg h]
    by_cases h2 : k < i
    · rw [if_pos h2, if_pos (by omega)]
    · rw [if_neg h2, if_neg (by omega)]
theorem mix_i (i : Nat) (f g : Nat → Int32) : mix i f g i = g i := if_neg (by omega)
theorem mix_n {n k : Nat} {f g : Nat → Int32} (h : k < n) : mix n f g k = f k := if_pos h
def fSet (K S : Nat → Int32) (k : Nat) : Int32 := if K k = 2 then S k - S k / 2 else S k
def zmade (x : Int32) : Int32 := if -999 ≤ x then (if x ≤ 999 then x else 999) else -999
def fMade (n : Nat) (K V S : Nat → Int32) (k : Nat) : Int32 := zmade (fNow n V (fSet K S) k)
theorem zmade_of (x : Int32) : zmax (-999) (zmin 999 x) = zmade x := by
  have e1 : (999 : Int32).toInt = 999 := rfl
  have e2 : (-999 : Int32).toInt = -999 := rfl
  unfold zmade zmax zmin
  by_cases c : x < 999
  · rw [if_pos c]
    rw [pn_lt, e1] at c
    by_cases d : -999 < x
    · rw [if_pos d]; rw [pn_lt, e2] at d
      rw [if_pos (by rw [pn_le, e2]; omega), if_pos (by rw [pn_le, e1]; omega)]
    · rw [if_neg d]; rw [pn_lt, e2] at d
      by_cases f : -999 ≤ x
      · rw [if_pos f, if_pos (by rw [pn_le, e1]; omega)]; rw [pn_le, e2] at f; rw [pn_eq, e2]; omega
      · rw [if_neg f]
  · rw [if_neg c, if_pos (by decide)]
    rw [pn_lt, e1] at c
    rw [if_pos (by rw [pn_le, e2]; omega)]
    by_cases f : x ≤ 999
    · rw [if_pos f]; rw [pn_le, e1] at f; rw [pn_eq, e1]; omega
    · rw [if_neg f]
theorem zmade_rng (x : Int32) : -999 ≤ (zmade x).toInt ∧ (zmade x).toInt ≤ 999 := by
  unfold zmade
  by_cases f : -999 ≤ x
  · rw [if_pos f]
    rw [pn_le] at f
    have e2 : (-999 : Int32).toInt = -999 := rfl
    by_cases g : x ≤ 999
    · rw [if_pos g]; rw [pn_le] at g
      have e1 : (999 : Int32).toInt = 999 := rfl
      omega
    · rw [if_neg g]; decide
  · rw [if_neg f]; decide
theorem p2_isSoft {M : zM} {o n k : Nat} {Q : Int32 → Prop} (hn : M o 0 = nI n) (h12 : n ≤ 12) (hk : k < n) (h : Q (if M (o + 1) k = 2 then 1 else 0)) : wX2_isSoft M o (nI k) Q := by
  unfold wX2_isSoft
  rw [hn, cl_of (by omega)]
  exact ⟨fun c => absurd c (nI_pos (by omega)), fun _ => ⟨fun c => absurd c (nI_ge hk (by omega)), fun _ => ⟨vp_of (by omega) (by omega), fun c => by rwa [if_neg c] at h, fun c => by rwa [if_pos c] at h⟩⟩⟩
theorem slI_in {n k : Nat} {S : Nat → Int32} (hk : k < n) : slI n S (k : Int) = S k := by
  unfold slI; rw [if_pos (by omega), Int.toNat_natCast]
theorem p2_settledAt {M : zM} {o n k : Nat} {Q : Int32 → Prop} (hn : M o 0 = nI n) (h12 : n ≤ 12) (hk : k < n) (h : Q (fSet (M (o + 1)) (M (o + 4)) k)) : wX2_settledAt M o (nI k) Q := by
  unfold wX2_settledAt
  refine p2_slewAt hn h12 (p2_isSoft hn h12 hk ?_)
  rw [pn_n (by omega), slI_in hk]
  unfold fSet at h
  by_cases c : M (o + 1) k = 2
  · rw [if_pos c] at h ⊢; exact ⟨fun q => absurd q (by decide), fun _ => h⟩
  · rw [if_neg c] at h ⊢; exact ⟨fun _ => h, fun q => absurd rfl q⟩
theorem p2_workIn {M : zM} {o n : Nat} {Q : zM → Prop} (hn : M o 0 = nI n) (h12 : n ≤ 12) (h : ∀ N : zM, (∀ x, x ≠ o + 2 → x ≠ o + 4 → N x = M x) → (∀ k, k < n → N (o + 2) k = fMade n (M (o + 1)) (M (o + 2)) (M (o + 4)) k) → (∀ k, k < 12 → N (o + 4) k = 0) → Q N) : wX2_workIn M o Q := by
  have key : ∀ (C : Int32 → zM → Prop), (∀ N : zM, (∀ x, x ≠ o + 4 → N x = M x) → N (o + 4) = mix n (fSet (M (o + 1)) (M (o + 4))) (M (o + 4)) → C (nI n) N) → ∀ d i, i + d = n → ∀ N : zM, (∀ x, x ≠ o + 4 → N x = M x) → N (o + 4) = mix i (fSet (M (o + 1)) (M (o + 4))) (M (o + 4)) → lpX2_workIn_2 o C (d + 1) (nI i) N := by
    intro C hC d
    induction d with
    | zero =>
      intro i hi N hN hS
      obtain rfl : i = n := by omega
      unfold lpX2_workIn_2
      rw [hN o (by omega), hn]
      exact ⟨fun _ => hC N hN hS, fun c => absurd (nI_le (Nat.le_refl _) (by omega)) c⟩
    | succ d ih =>
      intro i hi N hN hS
      unfold lpX2_workIn_2
      have hn' : N o 0 = nI n := by rw [hN o (by omega)]; exact hn
      rw [hn']
      refine ⟨fun c => absurd c (nI_ge (by omega) (by omega)), fun _ => p2_settledAt hn' h12 (by omega) ⟨vp_of (by omega) (by omega), fun M14 e14 x15 e15 => ?_⟩⟩
      rw [cl_of (by omega)] at e14
      rw [e15, nI_1]
      refine ih (i + 1) (by omega) M14 (fun x hx => by rw [e14, va_up_ne _ _ hx, hN x hx]) ?_
      rw [e14, va_up_self, hS, hN (o + 1) (by omega)]
      have : fSet (M (o + 1)) (mix i (fSet (M (o + 1)) (M (o + 4))) (M (o + 4))) i = fSet (M (o + 1)) (M (o + 4)) i := by
        show (if M (o + 1) i = 2 then mix i (fSet (M (o + 1)) (M (o + 4))) (M (o + 4)) i - mix i (fSet (M (o + 1)) (M (o + 4))) (M (o + 4)) i / 2 else mix i (fSet (M (o + 1)) (M (o + 4))) (M (o + 4)) i) = _
        rw [mix_i]; rfl
      rw [this, mix_s]
  refine ⟨n + 1, key _ ?_ n 0 (by omega) M (fun _ _ => rfl) (mix_0 _ _).symm⟩
  intro A hA sA
  have key2 : ∀ d i, i + d = n → ∀ N : zM, (∀ x, x ≠ o + 2 → N x = A x) → N (o + 2) = mix i (fMade n (M (o + 1)) (M (o + 2)) (M (o + 4))) (M (o + 2)) → lpX2_workIn_29 o Q (d + 1) (nI i) N := by
    intro d
    induction d with
    | zero =>
      intro i hi N hN hV
      obtain rfl : i = n := by omega
      unfold lpX2_workIn_29
      rw [hN o (by omega), hA o (by omega), hn]
      refine ⟨fun _ => ?_, fun c => absurd (nI_le (Nat.le_refl _) (by omega)) c⟩
      unfold wX2_dropSlews
      refine pJ_fill (by omega) (h _ (fun x h1 h2 => by rw [va_up_ne _ _ h2, hN x h1, hA x h2]) (fun k hk => ?_) (fun k hk => ?_))
      · rw [va_up_ne _ _ (by omega), hV, mix_n hk]
      · rw [va_up_self]; exact if_pos hk
    | succ d ih =>
      intro i hi N hN hV
      unfold lpX2_workIn_29
      have hn' : N o 0 = nI n := by rw [hN o (by omega), hA o (by omega)]; exact hn
      rw [hn']
      refine ⟨fun c => absurd c (nI_ge (by omega) (by omega)), fun _ => p2_now hn' h12 (by omega) ⟨vp_of (by omega) (by omega), fun M11 e11 x12 e12 => ?_⟩⟩
      rw [cl_of (by omega), zmade_of] at e11
      rw [e12, nI_1]
      refine ih (i + 1) (by omega) M11 (fun x hx => by rw [e11, va_up_ne _ _ hx, hN x hx]) ?_
      rw [e11, va_up_self]
      have : zmade (fNow n (N (o + 2)) (N (o + 4)) i) = fMade n (M (o + 1)) (M (o + 2)) (M (o + 4)) i := by
        unfold fMade
        congr 1
        unfold fNow
        rw [hV, mix_i, hN (o + 4) (by omega), sA, mix_n (show i < n by omega), slI_of (fun k hk => mix_n hk), slI_of (fun k hk => mix_n hk)]
      rw [this, hV, mix_s]
  exact ⟨n + 1, key2 n 0 (by omega) A (fun _ _ => rfl) (by rw [mix_0, hA _ (by omega)])⟩
theorem p8_settles {M : zM} {o n0 k n : Nat} {W : Int32} {K V B S : Nat → Int32} {Q : zM → Prop} (h0 : 50 ≤ n0) (h9 : n0 ≤ 10000) (h12 : n ≤ 12) (hk : k < n) (hr : rowOf (M o) n W K V B S) (h : ∀ N : zM, (∀ x, x ≠ o → N x = M x) → rowOf (N o) n W K V B (upd S k (S k - S k / 2)) → Q N) : wX8_settles M o n0 (nI k) Q := by
  unfold wX8_settles
  intro x4 e4
  rw [show (((2 : Int32) + 4 * nI k) + 3) = nI (2 + 4 * k + 3) from nI_4c k 3] at e4
  rw [e4]
  refine ⟨vp_of (by omega) (by omega), fun x5 e5 => ?_⟩
  rw [show (((2 : Int32) + 4 * nI k) + 3) = nI (2 + 4 * k + 3) from nI_4c k 3] at e5
  rw [e5]
  refine ⟨vp_of (by omega) (by omega), fun x6 e6 => ⟨vp_of (by omega) (by omega), fun N eN => ?_⟩⟩
  rw [cl_of (by omega), show 2 + 4 * k + 3 = 5 + 4 * k by omega] at e6 eN
  have es : M o (5 + 4 * k) = S k := hr.2.2.2.2.2 k hk
  rw [es] at e6
  refine h N (fun x hx => by rw [eN, va_up_ne _ _ hx]) ?_
  rw [eN, va_up_self, e6]
  exact row_S hr
theorem fSet_of {n k : Nat} {K K' S S' : Nat → Int32} (hk : k < n) (hK : ∀ k, k < n → K k = K' k) (hs : ∀ k, k < n → S k = S' k) : fSet K S k = fSet K' S' k := by
  unfold fSet; rw [hK k hk, hs k hk]
theorem fMade_of {n k : Nat} {K K' V V' S S' : Nat → Int32} (hk : k < n) (hK : ∀ k, k < n → K k = K' k) (hv : ∀ k, k < n → V k = V' k) (hs : ∀ k, k < n → S k = S' k) : fMade n K V S k = fMade n K' V' S' k := by
  unfold fMade; rw [fNow_of hk hv (fun j hj => fSet_of hj hK hs)]
theorem p8_works {M : zM} {o n0 n : Nat} {W : Int32} {K V B S : Nat → Int32} {Q : zM → Prop} (h0 : 50 ≤ n0) (h9 : n0 ≤ 10000) (h12 : n ≤ 12) (hr : rowOf (M o) n W K V B S) (h : ∀ N : zM, (∀ x, x ≠ o → N x = M x) → rowOf (N o) n (if 999 ≤ W then W else W + 1) K (fMade n K V S) B (fun _ => 0) → Q N) : wX8_works M o n0 Q := by
  have z : (0 : Int32).toNatClampNeg = 0 := rfl
  have key : ∀ (C : Int32 → zM → Prop), (∀ N : zM, (∀ x, x ≠ o → N x = M x) → rowOf (N o) n W K V B (fSet K S) → C (nI n) N) → ∀ d i, i + d = n → ∀ N : zM, (∀ x, x ≠ o → N x = M x) → rowOf (N o) n W K V B (mix i (fSet K S) S) → lpX8_works_2 o n0 C (d + 1) (nI i) N := by
    intro C hC d
    induction d with
    | zero =>
      intro i hi N hN hS
      obtain rfl : i = n := by omega
      unfold lpX8_works_2
      rw [z, hS.1]
      exact ⟨vp_of (n := 0) (by omega) (by omega), fun _ => hC N hN (row_of hS rfl (fun _ _ => rfl) (fun _ _ => rfl) (fun _ _ => rfl) (fun k hk => mix_n hk)), fun c => absurd (nI_le (Nat.le_refl _) (by omega)) c⟩
    | succ d ih =>
      intro i hi N hN hS
      unfold lpX8_works_2
      rw [z, hS.1]
      refine ⟨vp_of (n := 0) (by omega) (by omega), fun c => absurd c (nI_ge (by omega) (by omega)), fun _ => ?_⟩
      rw [nI_4, cl_of (by omega)]
      refine ⟨vp_of (by omega) (by omega), fun x34 e34 => ?_⟩
      have ek : x34 = K i := by rw [e34]; exact hS.2.2.1 i (by omega)
      rw [ek]
      refine ⟨fun c x35 e35 => ?_, fun c => p8_settles h0 h9 h12 (by omega) hS (fun N2 hN2 hr2 x37 e37 => ?_)⟩
      · rw [e35, nI_1]
        refine ih (i + 1) (by omega) N hN (row_of hS rfl (fun _ _ => rfl) (fun _ _ => rfl) (fun _ _ => rfl) (fun k hk => ?_))
        unfold mix
        by_cases q : k < i
        · rw [if_pos q, if_pos (by omega)]
        · rw [if_neg q]
          by_cases q2 : k < i + 1
          · rw [if_pos q2]
            obtain rfl : k = i := by omega
            unfold fSet; rw [if_neg c]
          · rw [if_neg q2]
      · rw [e37, nI_1]
        refine ih (i + 1) (by omega) N2 (fun x hx => by rw [hN2 x hx, hN x hx]) (row_of hr2 rfl (fun _ _ => rfl) (fun _ _ => rfl) (fun _ _ => rfl) (fun k hk => ?_))
        rw [mix_i, ← mix_s]
        have : fSet K S i = S i - S i / 2 := by unfold fSet; rw [if_pos c]
        rw [this]
  refine ⟨n + 1, key _ ?_ n 0 (by omega) M (fun _ _ => rfl) (by rw [mix_0]; exact hr)⟩
  intro A hA rA
  have key2 : ∀ (C : Int32 → zM → Prop), (∀ N : zM, (∀ x, x ≠ o → N x = M x) → rowOf (N o) n W K (fMade n K V S) B (fSet K S) → C (nI n) N) → ∀ d i, i + d = n → ∀ N : zM, (∀ x, x ≠ o → N x = M x) → rowOf (N o) n W K (mix i (fMade n K V S) V) B (fSet K S) → lpX8_works_33 o n0 C (d + 1) (nI i) N := by
    intro C hC d
    induction d with
    | zero =>
      intro i hi N hN hS
      obtain rfl : i = n := by omega
      unfold lpX8_works_33
      rw [z, hS.1]
      exact ⟨vp_of (n := 0) (by omega) (by omega), fun _ => hC N hN (row_of hS rfl (fun _ _ => rfl) (fun k hk => mix_n hk) (fun _ _ => rfl) (fun _ _ => rfl)), fun c => absurd (nI_le (Nat.le_refl _) (by omega)) c⟩
    | succ d ih =>
      intro i hi N hN hS
      unfold lpX8_works_33
      rw [z, hS.1]
      refine ⟨vp_of (n := 0) (by omega) (by omega), fun c => absurd c (nI_ge (by omega) (by omega)), fun _ => ?_⟩
      intro x22 e22 x23 e23
      rw [show (((2 : Int32) + 4 * nI i) + 3) = nI (2 + 4 * i + 3) from nI_4c i 3] at e22
      rw [show (((2 : Int32) + 4 * nI i) + 1) = nI (2 + 4 * i + 1) from nI_4c i 1] at e23
      rw [e22, e23, cl_of (by omega), cl_of (by omega)]
      refine ⟨vp_of (by omega) (by omega), vp_of (by omega) (by omega), fun x24 e24 => p8_slewOf h0 h9 hS.1 h12 (p8_slewOf h0 h9 hS.1 h12 ?_)⟩
      rw [t_m1 (by omega), t_p1 (by omega)]
      have sl : ∀ z : Int, slI n (rS (N o)) z = slI n (fSet K S) z := fun z => slI_of hS.2.2.2.2.2 z
      have e24' : x24 = V i + 2 * fSet K S i := by
        rw [e24, show 2 + 4 * i + 3 = 5 + 4 * i by omega, show 2 + 4 * i + 1 = 3 + 4 * i by omega, show N o (5 + 4 * i) = fSet K S i from hS.2.2.2.2.2 i (by omega), show N o (3 + 4 * i) = mix i (fMade n K V S) V i from hS.2.2.2.1 i (by omega), mix_i]
      rw [sl, sl]
      have en : x24 - slI n (fSet K S) ((i : Int) - 1) - slI n (fSet K S) ((i : Int) + 1) = fNow n V (fSet K S) i := by rw [e24']; rfl
      intro x27 e27
      rw [show (((2 : Int32) + 4 * nI i) + 1) = nI (2 + 4 * i + 1) from nI_4c i 1] at e27
      rw [e27, cl_of (by omega), show 2 + 4 * i + 1 = 3 + 4 * i by omega]
      have fin : ∀ N2 : zM, N2 = va_up N o (upd (N o) (3 + 4 * i) (fMade n K V S i)) → ∀ x : Int32, x = nI i + 1 → lpX8_works_33 o n0 C (d + 1) x N2 := by
        intro N2 e2 x ex
        rw [ex, nI_1]
        refine ih (i + 1) (by omega) N2 (fun x hx => by rw [e2, va_up_ne _ _ hx, hN x hx]) ?_
        rw [e2, va_up_self, ← mix_s]
        exact row_V hS
      rw [en]
      unfold fMade zmade at fin
      refine ⟨fun c => ⟨fun c2 => ⟨vp_of (by omega) (by omega), fun N2 e2 => fin N2 (by rw [if_pos c, if_pos c2]; exact e2)⟩, fun c2 => ⟨vp_of (by omega) (by omega), fun N2 e2 => fin N2 (by rw [if_pos c, if_neg c2]; exact e2)⟩⟩, fun c => ⟨vp_of (by omega) (by omega), fun N2 e2 => fin N2 (by rw [if_neg c]; exact e2)⟩⟩
  refine ⟨n + 1, key2 _ ?_ n 0 (by omega) A hA (by rw [mix_0]; exact rA)⟩
  intro B1 hB rB
  have key3 : ∀ (C : Int32 → zM → Prop), (∀ N : zM, (∀ x, x ≠ o → N x = M x) → rowOf (N o) n W K (fMade n K V S) B (fun _ => 0) → C (nI n) N) → ∀ d i, i + d = n → ∀ N : zM, (∀ x, x ≠ o → N x = M x) → rowOf (N o) n W K (fMade n K V S) B (mix i (fun _ => 0) (fSet K S)) → lpX8_works_124 o n0 C (d + 1) (nI i) N := by
    intro C hC d
    induction d with
    | zero =>
      intro i hi N hN hS
      obtain rfl : i = n := by omega
      unfold lpX8_works_124
      rw [z, hS.1]
      exact ⟨vp_of (n := 0) (by omega) (by omega), fun _ => hC N hN (row_of hS rfl (fun _ _ => rfl) (fun _ _ => rfl) (fun _ _ => rfl) (fun k hk => mix_n hk)), fun c => absurd (nI_le (Nat.le_refl _) (by omega)) c⟩
    | succ d ih =>
      intro i hi N hN hS
      unfold lpX8_works_124
      rw [z, hS.1]
      refine ⟨vp_of (n := 0) (by omega) (by omega), fun c => absurd c (nI_ge (by omega) (by omega)), fun _ => ?_⟩
      intro x19 e19
      rw [show (((2 : Int32) + 4 * nI i) + 3) = nI (2 + 4 * i + 3) from nI_4c i 3] at e19
      rw [e19, cl_of (by omega), show 2 + 4 * i + 3 = 5 + 4 * i by omega]
      refine ⟨vp_of (by omega) (by omega), fun M20 e20 x21 e21 => ?_⟩
      rw [e21, nI_1]
      refine ih (i + 1) (by omega) M20 (fun x hx => by rw [e20, va_up_ne _ _ hx, hN x hx]) ?_
      rw [e20, va_up_self, ← mix_s]
      exact row_S hS
  refine ⟨n + 1, key3 _ ?_ n 0 (by omega) B1 hB (by rw [mix_0]; exact rB)⟩
  intro N hN rN
  have e1 : (1 : Int32).toNatClampNeg = 1 := rfl
  rw [e1, rN.2.1]
  refine ⟨vp_of (n := 1) (by omega) (by omega), vp_of (n := 1) (by omega) (by omega), fun c x ex => ⟨vp_of (n := 1) (by omega) (by omega), fun P eP => h P (fun x hx => by rw [eP, va_up_ne _ _ hx, hN x hx]) ?_⟩, fun c x ex => ⟨vp_of (n := 1) (by omega) (by omega), fun P eP => h P (fun x hx => by rw [eP, va_up_ne _ _ hx, hN x hx]) ?_⟩⟩
  · rw [eP, va_up_self, if_pos c, ex, Int32.add_zero]; exact row_W rN
  · rw [eP, va_up_self, if_neg c, ex]; exact row_W rN
section PW
variable {S : zM → Prop}
theorem s_work (hS : sOwn S) : st_work (fun M _ => cAll S M) := by
  intro M J hI
  obtain ⟨n, e7, e8, h12, hrn, hn0⟩ := rail_n hI.2.2.2.1
  obtain ⟨h, x, hh, hx, h24, x24, h8, hs⟩ := hist_n hI.2.2.2.2.2.1
  unfold wX7_work
  refine p2_isThere ?_
  show (¬ (if M 20 0 ≤ 0 then (0 : Int32) else 1) = 0 → _) ∧ ((if M 20 0 ≤ 0 then (0 : Int32) else 1) = 0 → _)
  rw [e7]
  by_cases hz : n = 0
  · rw [if_pos ((n_le0 h12).2 hz)]
    refine ⟨fun c => absurd rfl c, fun _ => ?_⟩
    unfold wX8_work
    refine p8_isRail ?_
    rw [e8, if_pos ((n_le0 h12).2 hz)]
    exact ⟨fun c => absurd rfl c, fun _ => ⟨rfl, hI⟩⟩
  · rw [if_neg (fun q => hz ((n_le0 h12).1 q))]
    refine ⟨fun _ => ?_, fun c => absurd c (by decide)⟩
    have hok2 : rok M 20 := hn0.elim (fun q => by omega) (fun q => q.2)
    have hrow : rowOf (M 206) n (M 20 1) (M 21) (M 22) (M 23) (M 24) := row_rel hI.2.2.2.1.1 e7 h12
    refine p7_keep e7 h12 hh hx h24 x24 (fun K hK => ?_)
    have kk : ∀ y, y ≠ 41 → (y < 43 ∨ 163 ≤ y) → K y = M y := fun y h1 h2 => hK.2.2.2 y h1 (by omega)
    have k20 : ∀ y, y < 41 → K y = M y := fun y h1 => kk y (by omega) (by omega)
    have ke7 : K 20 0 = nI n := by rw [k20 20 (by omega)]; exact e7
    refine p2_moved (o := 20) ke7 h12 (p2_workIn (o := 20) ke7 h12 (fun A hA vA sA => ?_))
    have vA : ∀ k, k < n → A 22 k = fMade n (M 21) (M 22) (M 24) k := by
      have := vA
      rw [k20 (20 + 1) (by omega), k20 (20 + 2) (by omega), k20 (20 + 4) (by omega)] at this
      exact this
    have sA : ∀ k, k < 12 → A 24 k = 0 := sA
    have hA : ∀ x, x ≠ 22 → x ≠ 24 → A x = K x := hA
    have a1 : A 20 1 = M 20 1 := by rw [hA 20 (by decide) (by decide), k20 20 (by omega)]
    have fin : ∀ A2 : zM, (∀ o, o ≠ 20 → A2 o = A o) → A2 20 0 = nI n → A2 20 1 = (if 999 ≤ M 20 1 then M 20 1 else M 20 1 + 1) → wX8_work A2 200 (fun r2 M2 => fMoved n (K 24) = r2 ∧ cAll S M2) := by
      intro A2 f2 z0 z1
      have a206 : A2 206 = M 206 := by rw [f2 206 (by decide), hA 206 (by decide) (by decide), kk 206 (by decide) (by omega)]
      unfold wX8_work
      refine p8_isRail ?_
      rw [a206, e8, if_neg (fun q => hz ((n_le0 h12).1 q))]
      refine ⟨fun _ => p8_notes (by rw [f2 200 (by decide), hA 200 (by decide) (by decide), kk 200 (by decide) (by omega)]; exact h8) h24 (fun B hB => ?_), fun c => absurd c (by decide)⟩
      have b206 : B 206 = M 206 := (hB.1 206 (by decide) (by decide)).trans a206
      have hrB : rowOf (B 206) n (M 20 1) (M 21) (M 22) (M 23) (M 24) := by rw [b206]; exact hrow
      refine p8_moved (o := 206) (by omega) (by omega) hrB.1 h12 (p8_works (o := 206) (by omega) (by omega) h12 hrB (fun N hN rN => ⟨?_, ?_⟩))
      · rw [k20 24 (by omega)]; exact fMoved_of (fun k hk => (hrB.2.2.2.2.2 k hk).symm)
      · have g : ∀ o, o < 41 → N o = A2 o := fun o ho => by rw [hN o (by omega), hB.1 o (by omega) (by omega)]
        have g3 : ∀ o, o < 41 → o ≠ 20 → o ≠ 22 → o ≠ 24 → N o = M o := fun o h1 h2 h3 h4 => by rw [g o h1, f2 o h2, hA o h3 h4, k20 o h1]
        have n0 : N 20 0 = nI n := by rw [g 20 (by omega)]; exact z0
        have n22 : N 22 = A 22 := by rw [g 22 (by omega), f2 22 (by decide)]
        have n24 : N 24 = A 24 := by rw [g 24 (by omega), f2 24 (by decide)]
        refine all_act hS hI hh hx h24 x24 hs hok2 hrn hK (A := A2) (B := B) (fun o ho => ?_) hB hN ⟨?_, Or.inr ?_⟩
        · rw [f2 o (by omega), hA o (by omega) (by omega)]
        · refine rel_row (o := 20) (row_of rN ?_ (fun k hk => ?_) (fun k hk => ?_) (fun k hk => ?_) (fun k hk => ?_)) n0 h12
          · rw [g 20 (by omega)]; exact z1.symm
          · rw [g3 (20 + 1) (by omega) (by omega) (by omega) (by omega)]
          · show _ = N 22 k; rw [n22]; exact (vA k hk).symm
          · rw [g3 (20 + 3) (by omega) (by omega) (by omega) (by omega)]
          · show _ = N 24 k; rw [n24]; exact (sA k (by omega)).symm
        · obtain ⟨m, em, h3, hm, hw, hok⟩ := hok2
          have hmn : m = n := by
            have : nI m = nI n := by rw [← em, e7]
            rw [pn_eq, pn_n (by omega), pn_n (by omega)] at this; omega
          subst hmn
          refine ⟨m, n0, h3, hm, ?_, fun k hk => ?_⟩
          · rw [g 20 (by omega), z1]
            by_cases c : 999 ≤ M 20 1
            · rw [if_pos c]; exact hw
            · rw [if_neg c]
              rw [pn_le, show (999 : Int32).toInt = 999 from rfl] at c
              rw [pn_add (by rw [t1]; omega) (by rw [t1]; omega), t1]; omega
          · obtain ⟨q1, q2, q3, q4⟩ := hok k hk
            rw [g3 (20 + 1) (by omega) (by omega) (by omega) (by omega), g3 (20 + 3) (by omega) (by omega) (by omega) (by omega)]
            refine ⟨q1, ?_, q3, ?_⟩
            · show -999 ≤ (N 22 k).toInt ∧ (N 22 k).toInt ≤ 999
              rw [n22, vA k hk]; exact zmade_rng _
            · show -3 ≤ (N 24 k).toInt ∧ (N 24 k).toInt ≤ 3
              rw [n24, sA k (by omega), t0]; omega
    refine ⟨fun c => ?_, fun c A2 e2 => ?_⟩
    · have c : 999 ≤ A 20 1 := c
      refine fin A (fun _ _ => rfl) (by rw [hA 20 (by decide) (by decide)]; exact ke7) ?_
      rw [a1] at c ⊢; rw [if_pos c]
    · have c : ¬ 999 ≤ A 20 1 := c
      have e2 : A2 = va_up A 20 (upd (A 20) 1 (A 20 1 + 1)) := e2
      refine fin A2 (fun o ho => by rw [e2, va_up_ne _ _ ho]) (by rw [e2, va_up_self, pk_un (by decide), hA 20 (by decide) (by decide)]; exact ke7) ?_
      rw [e2, va_up_self, pk_us, a1]; rw [a1] at c; rw [if_neg c]
end PW
