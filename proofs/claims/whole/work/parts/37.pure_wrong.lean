/-! PURE: wrong() -/
def isum (f : Nat → Int) : Nat → Int
  | 0 => 0
  | m + 1 => isum f m + f m
theorem isum_of {f g : Nat → Int} {m : Nat} (h : ∀ j, j < m → f j = g j) : isum f m = isum g m := by
  induction m with
  | zero => rfl
  | succ m ih => unfold isum; rw [ih (fun j hj => h j (by omega)), h m (by omega)]
theorem isum_two {f g : Nat → Int} {k : Nat} (h : ∀ j, j ≠ k → j + 1 ≠ k → f j = g j) (m : Nat) : isum f m - isum g m = (if 1 ≤ k ∧ k ≤ m then f (k - 1) - g (k - 1) else 0) + (if k < m then f k - g k else 0) := by
  induction m with
  | zero => rw [if_neg (by omega), if_neg (by omega)]; rfl
  | succ m ih =>
    show isum f m + f m - (isum g m + g m) = _
    by_cases c1 : m = k
    · subst c1
      rw [if_neg (Nat.lt_irrefl _)] at ih
      rw [if_pos (Nat.lt_succ_self _)]
      by_cases c3 : 1 ≤ m
      · rw [if_pos ⟨c3, Nat.le_refl _⟩] at ih
        rw [if_pos ⟨c3, Nat.le_succ _⟩]
        omega
      · rw [if_neg (by omega)] at ih
        rw [if_neg (by omega)]
        omega
    · by_cases c2 : m + 1 = k
      · subst c2
        rw [if_neg (by omega), if_neg (by omega)] at ih
        rw [if_pos ⟨by omega, Nat.le_refl _⟩, if_neg (by omega), show m + 1 - 1 = m by omega]
        omega
      · have e := h m c1 c2
        by_cases c4 : k < m
        · rw [if_pos c4] at ih
          rw [if_pos (show k < m + 1 by omega)]
          by_cases c3 : 1 ≤ k
          · rw [if_pos ⟨c3, by omega⟩] at ih
            rw [if_pos ⟨c3, by omega⟩]
            omega
          · rw [if_neg (by omega)] at ih
            rw [if_neg (by omega)]
            omega
        · rw [if_neg c4, if_neg (by omega)] at ih
          rw [if_neg (by omega), if_neg (by omega)]
          omega
theorem fAcc_int {f : Nat → Int32} {m : Nat} (hm : m ≤ 12) (h : ∀ j, j < m → 0 ≤ (f j).toInt ∧ (f j).toInt ≤ 2022) : (fAcc (fun a b => a + b) f m).toInt = isum (fun j => (f j).toInt) m ∧ 0 ≤ isum (fun j => (f j).toInt) m ∧ isum (fun j => (f j).toInt) m ≤ 2022 * m := by
  induction m with
  | zero => exact ⟨rfl, Int.le_refl _, Int.le_refl _⟩
  | succ m ih =>
    obtain ⟨a, b, c⟩ := ih (by omega) (fun j hj => h j (by omega))
    have hm := h m (by omega)
    have e : isum (fun j => (f j).toInt) (m + 1) = isum (fun j => (f j).toInt) m + (f m).toInt := rfl
    refine ⟨?_, by rw [e]; omega, by rw [e]; omega⟩
    show (fAcc (fun a b => a + b) f m + f m).toInt = _
    rw [pn_add (by rw [a]; omega) (by rw [a]; omega), a, e]
/-- a step, 0 beyond the rail -/
def eS (n : Nat) (K V S : Nat → Int32) (i : Int) : Int32 := if 0 ≤ i ∧ i + 1 < n then fStep n K V S i.toNat else 0
theorem p2_stepI {M : zM} {o n : Nat} {x : Int32} {Q : Int32 → Prop} (hn : M o 0 = nI n) (h1 : 1 ≤ n) (h12 : n ≤ 12) (h : Q (eS n (M (o + 1)) (M (o + 2)) (M (o + 4)) x.toInt)) : wX2_step M o x Q := by
  unfold eS at h
  by_cases c : 0 ≤ x.toInt ∧ x.toInt + 1 < n
  · rw [if_pos c] at h
    rw [pn_of c.1]
    exact p2_step hn h12 (by omega) h
  · rw [if_neg c] at h
    unfold wX2_step wX2_isEased
    rw [hn]
    refine ⟨fun q => ⟨fun z => absurd z (by decide), fun _ => h⟩, fun q => ⟨fun z => ⟨fun y => absurd y (by decide), fun _ => h⟩, fun z => ?_⟩⟩
    exfalso
    rw [pn_lt, t0] at q
    rw [pn_le, t_m1 (by omega)] at z
    omega
def zZ0 : Nat → Int32 := fun _ => 0
theorem slI_z (n : Nat) (i : Int) : slI n zZ0 i = 0 := by unfold slI zZ0; split <;> rfl
theorem fNow_z (n : Nat) (V : Nat → Int32) (k : Nat) : fNow n V zZ0 k = V k := by
  unfold fNow
  rw [slI_z, slI_z, show zZ0 k = 0 from rfl, show (2 : Int32) * 0 = 0 by decide, Int32.add_zero, Int32.sub_zero, Int32.sub_zero]
/-- a step at no slew -/
def gS (n : Nat) (K V : Nat → Int32) (j : Nat) : Int := (fStep n K V zZ0 j).toInt
theorem gS_ne {n : Nat} {K V : Nat → Int32} {k : Nat} {v : Int32} {j : Nat} (h1 : j ≠ k) (h2 : j + 1 ≠ k) : gS n K V j = gS n K (upd V k v) j := by
  unfold gS fStep
  rw [fNow_z, fNow_z, fNow_z, fNow_z, pk_un h1, pk_un h2]
def zr (n : Nat) (V : Nat → Int32) : Prop := ∀ k, k < n → -999 ≤ (V k).toInt ∧ (V k).toInt ≤ 999
theorem zr_upd {n : Nat} {V : Nat → Int32} (h : zr n V) (k : Nat) {v : Nat} (hv : v ≤ 60) : zr n (upd V k (nI v)) := by
  intro j hj
  by_cases c : j = k
  · rw [c, pk_us, pn_n (by omega)]; omega
  · rw [pk_un c]; exact h j hj
theorem gS_rng {n : Nat} {K V : Nat → Int32} (h : zr n V) {j : Nat} (hj : j + 1 < n) : 0 ≤ gS n K V j ∧ gS n K V j ≤ 2022 := fStep_rng hj h (fun _ _ => by rw [show zZ0 _ = 0 from rfl, t0]; omega)
def gU (n : Nat) (K V : Nat → Int32) : Int := isum (gS n K V) (n - 1)
theorem gU_int {n : Nat} {K V : Nat → Int32} (h : zr n V) (h12 : n ≤ 12) : (fUneven n K V zZ0).toInt = gU n K V ∧ 0 ≤ gU n K V ∧ gU n K V ≤ 30000 := by
  obtain ⟨a, b, c⟩ := fAcc_int (f := fStep n K V zZ0) (m := n - 1) (by omega) (fun j hj => gS_rng h (by omega))
  exact ⟨a, b, Int.le_trans c (by omega)⟩
/-- what is won at a peg by a versine -/
def gG (n : Nat) (K V : Nat → Int32) (k v : Nat) : Int := gU n K V - gU n K (upd V k (nI v))
theorem eS_int {n : Nat} {K V : Nat → Int32} (h : zr n V) (i : Int) : (eS n K V zZ0 i).toInt = if 0 ≤ i ∧ i + 1 < n then gS n K V i.toNat else 0 := by
  unfold eS
  by_cases c : 0 ≤ i ∧ i + 1 < n
  · rw [if_pos c, if_pos c]; rfl
  · rw [if_neg c, if_neg c]; rfl
theorem eS_rng {n : Nat} {K V : Nat → Int32} (h : zr n V) (i : Int) : 0 ≤ (eS n K V zZ0 i).toInt ∧ (eS n K V zZ0 i).toInt ≤ 2022 := by
  rw [eS_int h]
  by_cases c : 0 ≤ i ∧ i + 1 < n
  · rw [if_pos c]; exact gS_rng h (by omega)
  · rw [if_neg c]; omega
theorem gG_is {n k v : Nat} {K V : Nat → Int32} (h : zr n V) (hk : k < n) (hv : v ≤ 60) : (((eS n K V zZ0 ((k : Int) - 1) + eS n K V zZ0 k) - eS n K (upd V k (nI v)) zZ0 ((k : Int) - 1)) - eS n K (upd V k (nI v)) zZ0 k).toInt = gG n K V k v := by
  have h' := zr_upd h k hv
  have a1 := eS_rng (K := K) h ((k : Int) - 1)
  have a2 := eS_rng (K := K) h k
  have a3 := eS_rng (K := K) h' ((k : Int) - 1)
  have a4 := eS_rng (K := K) h' k
  have e1 : (eS n K V zZ0 ((k : Int) - 1) + eS n K V zZ0 k).toInt = (eS n K V zZ0 ((k : Int) - 1)).toInt + (eS n K V zZ0 k).toInt := pn_add (by omega) (by omega)
  have e2 : ((eS n K V zZ0 ((k : Int) - 1) + eS n K V zZ0 k) - eS n K (upd V k (nI v)) zZ0 ((k : Int) - 1)).toInt = (eS n K V zZ0 ((k : Int) - 1)).toInt + (eS n K V zZ0 k).toInt - (eS n K (upd V k (nI v)) zZ0 ((k : Int) - 1)).toInt := by
    rw [pn_sub (by rw [e1]; omega) (by rw [e1]; omega), e1]
  rw [pn_sub (by rw [e2]; omega) (by rw [e2]; omega), e2, eS_int h, eS_int h, eS_int h', eS_int h']
  unfold gG gU
  rw [isum_two (fun j h1 h2 => gS_ne (n := n) (K := K) (V := V) (k := k) (v := nI v) h1 h2)]
  have q1 : ((k : Int) - 1).toNat = k - 1 := by omega
  rw [q1, Int.toNat_natCast]
  by_cases c1 : 1 ≤ k
  · rw [if_pos (show (0 : Int) ≤ (k : Int) - 1 ∧ (k : Int) - 1 + 1 < n by omega), if_pos (show (0 : Int) ≤ (k : Int) - 1 ∧ (k : Int) - 1 + 1 < n by omega), if_pos (show 1 ≤ k ∧ k ≤ n - 1 by omega)]
    by_cases c2 : k + 1 < n
    · rw [if_pos (show (0 : Int) ≤ k ∧ (k : Int) + 1 < n by omega), if_pos (show (0 : Int) ≤ k ∧ (k : Int) + 1 < n by omega), if_pos (show k < n - 1 by omega)]; omega
    · rw [if_neg (show ¬ ((0 : Int) ≤ k ∧ (k : Int) + 1 < n) by omega), if_neg (show ¬ ((0 : Int) ≤ k ∧ (k : Int) + 1 < n) by omega), if_neg (show ¬ k < n - 1 by omega)]; omega
  · rw [if_neg (show ¬ ((0 : Int) ≤ (k : Int) - 1 ∧ (k : Int) - 1 + 1 < n) by omega), if_neg (show ¬ ((0 : Int) ≤ (k : Int) - 1 ∧ (k : Int) - 1 + 1 < n) by omega), if_neg (show ¬ (1 ≤ k ∧ k ≤ n - 1) by omega)]
    by_cases c2 : k + 1 < n
    · rw [if_pos (show (0 : Int) ≤ k ∧ (k : Int) + 1 < n by omega), if_pos (show (0 : Int) ≤ k ∧ (k : Int) + 1 < n by omega), if_pos (show k < n - 1 by omega)]; omega
    · rw [if_neg (show ¬ ((0 : Int) ≤ k ∧ (k : Int) + 1 < n) by omega), if_neg (show ¬ ((0 : Int) ≤ k ∧ (k : Int) + 1 < n) by omega), if_neg (show ¬ k < n - 1 by omega)]; omega
/-- the search as it goes: what is won at most, and where (64 times the peg, and the versine) -/
def wTry (G : Nat → Nat → Int) (k v : Nat) (s : Int × Int) : Int × Int := if G k v ≤ s.1 then s else (G k v, 64 * (k : Int) + v)
def wRow (G : Nat → Nat → Int) (k : Nat) (s : Int × Int) : Nat → Int × Int
  | 0 => s
  | v + 1 => wTry G k v (wRow G k s v)
def wAll (G : Nat → Nat → Int) : Nat → Int × Int
  | 0 => (0, -1)
  | k + 1 => wRow G k (wAll G k) 61
theorem cls_V {M P : zM} {o n k : Nat} {v : Int32} {K V B S : Nat → Int32} (h : clsOf M o n K V B S) (e : P = va_up M (o + 2) (upd (M (o + 2)) k v)) : clsOf P o n K (upd V k v) B S := by
  refine ⟨?_, fun j hj => ?_, fun j hj => ?_, fun j hj => ?_, fun j hj => ?_⟩
  · rw [e, va_up_ne _ _ (by omega)]; exact h.1
  · rw [e, va_up_ne _ _ (by omega)]; exact h.2.1 j hj
  · rw [e, va_up_self]
    by_cases c : j = k
    · rw [c, pk_us, pk_us]
    · rw [pk_un c, pk_un c]; exact h.2.2.1 j hj
  · rw [e, va_up_ne _ _ (by omega)]; exact h.2.2.2.1 j hj
  · rw [e, va_up_ne _ _ (by omega)]; exact h.2.2.2.2 j hj
theorem eS_of {n : Nat} {K K' V V' S S' : Nat → Int32} (hK : ∀ k, k < n → K k = K' k) (hv : ∀ k, k < n → V k = V' k) (hs : ∀ k, k < n → S k = S' k) (i : Int) : eS n K V S i = eS n K' V' S' i := by
  unfold eS
  by_cases c : 0 ≤ i ∧ i + 1 < n
  · rw [if_pos c, if_pos c]; exact fStep_of (by omega) hK hv hs
  · rw [if_neg c, if_neg c]
theorem p2_stepC {M : zM} {o n : Nat} {x : Int32} {K V B S : Nat → Int32} {Q : Int32 → Prop} (h1 : 1 ≤ n) (h12 : n ≤ 12) (hc : clsOf M o n K V B S) (h : Q (eS n K V S x.toInt)) : wX2_step M o x Q := by
  refine p2_stepI hc.1 h1 h12 ?_
  rw [eS_of hc.2.1 hc.2.2.1 hc.2.2.2.2]
  exact h
theorem p2_misread {M : zM} {n : Nat} {K V B : Nat → Int32} {Q : Int32 → zM → Prop} (h1 : 1 ≤ n) (h12 : n ≤ 12) (hc : clsOf M 25 n K V B zZ0) (hv : zr n V)
    (h : ∀ (N : zM) (r : Int32), (∀ x, x < 25 ∨ 30 ≤ x → N x = M x) → r.toInt = (wAll (gG n K V) n).2 → Q r N) : wX2_misread M 25 Q := by
  have key : ∀ d i, i + d = n → ∀ (N : zM) (x3 x4 : Int32), (∀ x, x < 25 ∨ 30 ≤ x → N x = M x) → clsOf N 25 n K V B zZ0 → x3.toInt = (wAll (gG n K V) i).2 → x4.toInt = (wAll (gG n K V) i).1 → lpX2_misread_6 25 Q (d + 1) x3 x4 (nI i) N := by
    intro d
    induction d with
    | zero =>
      intro i hi N x3 x4 fN cN e3 e4
      obtain rfl : i = n := by omega
      unfold lpX2_misread_6
      rw [cN.1]
      exact ⟨fun _ => h N x3 fN e3, fun c => absurd (nI_le (Nat.le_refl _) (by omega)) c⟩
    | succ d ih =>
      intro i hi N x3 x4 fN cN e3 e4
      unfold lpX2_misread_6
      rw [cN.1]
      refine ⟨fun c => absurd c (nI_ge (by omega) (by omega)), fun _ => ⟨vp_of (by omega) (by omega), p2_stepC h1 h12 cN (p2_stepC h1 h12 cN ?_)⟩⟩
      rw [t_m1 (by omega), pn_n (by omega), cl_of (by omega)]
      have key2 : ∀ d2 v, v + d2 = 61 → ∀ (P : zM) (x9 x10 : Int32), (∀ x, x < 25 ∨ 30 ≤ x → P x = M x) → (∃ u, clsOf P 25 n K (upd V i u) B zZ0) → x9.toInt = (wRow (gG n K V) i (wAll (gG n K V) i) v).2 → x10.toInt = (wRow (gG n K V) i (wAll (gG n K V) i) v).1 → lpX2_misread_40 25 (nI i) (eS n K V zZ0 ((i : Int) - 1)) (eS n K V zZ0 (i : Int)) (fun x13 x14 x15 M16 => vp_in (nI i) 12 ∧ ∀ M17 : zM, M17 = va_up M16 (25 + 2) (upd (M16 (25 + 2)) i (N (25 + 2) i)) → ∀ x18 : Int32, x18 = nI i + 1 → lpX2_misread_6 25 Q (d + 1) x13 x14 x18 M17) (d2 + 1) x9 x10 (nI v) P := by
        intro d2
        induction d2 with
        | zero =>
          intro v hv2 P x9 x10 fP ⟨u, cP⟩ e9 e10
          obtain rfl : v = 61 := by omega
          unfold lpX2_misread_40
          refine ⟨fun _ => ⟨vp_of (by omega) (by omega), fun M17 e17 x18 e18 => ?_⟩, fun c => absurd (by decide) c⟩
          rw [e18, nI_1]
          have c17 := cls_V cP e17
          rw [upd_2, cN.2.2.1 i (by omega), upd_id] at c17
          exact ih (i + 1) (by omega) M17 x9 x10 (fun x hx => by rw [e17, va_up_ne _ _ (by omega), fP x hx]) c17 e9 e10
        | succ d2 ih2 =>
          intro v hv2 P x9 x10 fP ⟨u, cP⟩ e9 e10
          unfold lpX2_misread_40
          refine ⟨fun c => absurd c (nI_nlt (a := 60) (b := v) (by omega) (by omega)), fun _ => ⟨vp_of (by omega) (by omega), fun M19 e19 => ?_⟩⟩
          rw [cl_of (by omega)] at e19
          have c19 := cls_V cP e19
          rw [upd_2] at c19
          refine p2_stepC h1 h12 c19 (p2_stepC h1 h12 c19 ?_)
          rw [t_m1 (by omega), pn_n (by omega)]
          have eg := gG_is (K := K) hv (show i < n by omega) (show v ≤ 60 by omega)
          have f19 : ∀ x, x < 25 ∨ 30 ≤ x → M19 x = M x := fun x hx => by rw [e19, va_up_ne _ _ (by omega), fP x hx]
          have ew : wRow (gG n K V) i (wAll (gG n K V) i) (v + 1) = wTry (gG n K V) i v (wRow (gG n K V) i (wAll (gG n K V) i) v) := rfl
          have ih2 := ih2 (v + 1) (by omega) M19
          rw [ew] at ih2
          unfold wTry at ih2
          refine ⟨fun c x22 e22 => ?_, fun c x23 e23 => ?_⟩
          · rw [pn_le, eg, e10] at c
            rw [if_pos c] at ih2
            rw [e22, nI_1 v]
            exact ih2 x9 x10 f19 ⟨_, c19⟩ e9 e10
          · rw [pn_le, eg, e10] at c
            rw [if_neg c] at ih2
            rw [e23, nI_1 v]
            refine ih2 _ _ f19 ⟨_, c19⟩ ?_ eg
            rw [show (64 : Int32) = nI 64 from rfl, pk_mul, nI_add, pn_n (by omega)]
            show ((i * 64 + v : Nat) : Int) = 64 * (i : Int) + v
            omega
      exact ⟨62, key2 61 0 (by omega) N x3 x4 fN ⟨V i, by rw [upd_id]; exact cN⟩ e3 e4⟩
  exact ⟨n + 1, key n 0 (by omega) M (-1) 0 (fun _ _ => rfl) hc rfl rfl⟩
/-- the reference's words for the same -/
def wR (s : Int × Int) (x y : Int32) : Prop := (s.2 = -1 ∧ x = -1000000 ∧ y = -1000000) ∨ ∃ k v : Nat, k < 12 ∧ v < 61 ∧ s.2 = 64 * (k : Int) + v ∧ x = nI k ∧ y = nI v
theorem p8_zero {M : zM} {n : Nat} {W : Int32} {K V B S : Nat → Int32} {C : Int32 → zM → Prop} (h12 : n ≤ 12) (hn : M 206 0 = nI n) (hr : rowOf (M 208) n W K V B S)
    (h : ∀ (N : zM) (x : Int32), (∀ x, x ≠ 208 → N x = M x) → rowOf (N 208) n W K V B zZ0 → C x N) : ∃ fu, lpX8_wrong_37 200 C fu 0 M := by
  have key : ∀ d i, i + d = n → ∀ N : zM, (∀ x, x ≠ 208 → N x = M x) → rowOf (N 208) n W K V B (mix i zZ0 S) → lpX8_wrong_37 200 C (d + 1) (nI i) N := by
    intro d
    induction d with
    | zero =>
      intro i hi N fN rN
      obtain rfl : i = n := by omega
      have hn' : N (200 + 6) (0 : Int32).toNatClampNeg = nI i := by rw [fN (200 + 6) (by decide)]; exact hn
      unfold lpX8_wrong_37
      rw [hn']
      refine ⟨fun _ => h N _ fN (row_of rN rfl (fun _ _ => rfl) (fun _ _ => rfl) (fun _ _ => rfl) (fun k hk => mix_n hk)), fun c => absurd (nI_le (Nat.le_refl _) (by omega)) c⟩
    | succ d ih =>
      intro i hi N fN rN
      have hn' : N (200 + 6) (0 : Int32).toNatClampNeg = nI n := by rw [fN (200 + 6) (by decide)]; exact hn
      unfold lpX8_wrong_37
      rw [hn']
      refine ⟨fun c => absurd c (nI_ge (by omega) (by omega)), fun _ x39 e39 => ?_⟩
      rw [show (((2 : Int32) + 4 * nI i) + 3) = nI (2 + 4 * i + 3) from nI_4c i 3, show 2 + 4 * i + 3 = 5 + 4 * i by omega] at e39
      rw [e39, cl_of (by omega)]
      refine ⟨vp_of (by omega) (by omega), fun M40 e40 x41 e41 => ?_⟩
      rw [e41, nI_1]
      refine ih (i + 1) (by omega) M40 (fun x hx => by rw [e40, va_up_ne _ _ hx, fN x hx]) ?_
      rw [e40, va_up_self, ← mix_s]
      exact row_S rN
  exact ⟨n + 1, key n 0 (by omega) M (fun _ _ => rfl) (by rw [mix_0]; exact hr)⟩
theorem p8_unevenR {M : zM} {n : Nat} {W : Int32} {K V B S : Nat → Int32} {Q : Int32 → Prop} (h1 : 1 ≤ n) (h12 : n ≤ 12) (hr : rowOf (M 208) n W K V B S) (h : Q (fUneven n K V S)) : wX8_uneven M 208 50 Q := by
  refine p8_uneven (o := 208) (by omega) (by omega) hr.1 h12 h1 ?_
  rw [fUneven_of hr.2.2.1 hr.2.2.2.1 hr.2.2.2.2.2]
  exact h
theorem p8_wrongs {M : zM} {n : Nat} {W W6 x12 : Int32} {K V B S6 : Nat → Int32} {C : Int32 → Int32 → Int32 → Int32 → zM → Prop} (h1 : 1 ≤ n) (h12 : n ≤ 12) (h6 : rowOf (M 206) n W6 K V B S6) (hr : rowOf (M 208) n W K V B zZ0) (hv : zr n V) (e12 : x12.toInt = gU n K V)
    (h : ∀ (N : zM) (x y z w : Int32), (∀ x, x ≠ 208 → N x = M x) → wR (wAll (gG n K V) n) x y → C z x y w N) : ∃ fu, lpX8_wrong_84 200 C fu x12 (-1000000) (-1000000) 0 M := by
  have key : ∀ d i, i + d = n → ∀ (N : zM) (x12 x13 x14 : Int32), (∀ x, x ≠ 208 → N x = M x) → rowOf (N 208) n W K V B zZ0 → x12.toInt = gU n K V - (wAll (gG n K V) i).1 → wR (wAll (gG n K V) i) x13 x14 → lpX8_wrong_84 200 C (d + 1) x12 x13 x14 (nI i) N := by
    intro d
    induction d with
    | zero =>
      intro i hi N x12 x13 x14 fN rN e2 e3
      obtain rfl : i = n := by omega
      have hn' : N (200 + 6) (0 : Int32).toNatClampNeg = nI i := by rw [fN (200 + 6) (by decide)]; exact h6.1
      unfold lpX8_wrong_84
      rw [hn']
      exact ⟨fun _ => h N x13 x14 x12 _ fN e3, fun c => absurd (nI_le (Nat.le_refl _) (by omega)) c⟩
    | succ d ih =>
      intro i hi N x12 x13 x14 fN rN e2 e3
      have hn' : N (200 + 6) (0 : Int32).toNatClampNeg = nI n := by rw [fN (200 + 6) (by decide)]; exact h6.1
      unfold lpX8_wrong_84
      rw [hn']
      refine ⟨fun c => absurd c (nI_ge (by omega) (by omega)), fun _ x22 e22 => ?_⟩
      rw [show (((2 : Int32) + 4 * nI i) + 1) = nI (2 + 4 * i + 1) from nI_4c i 1, show 2 + 4 * i + 1 = 3 + 4 * i by omega] at e22
      subst e22
      rw [cl_of (by omega)]
      have key2 : ∀ d2 v, v + d2 = 61 → ∀ (P : zM) (x23 x24 x25 : Int32), (∀ x, x ≠ 208 → P x = M x) → (∃ u, rowOf (P 208) n W K (upd V i u) B zZ0) → x23.toInt = gU n K V - (wRow (gG n K V) i (wAll (gG n K V) i) v).1 → wR (wRow (gG n K V) i (wAll (gG n K V) i) v) x24 x25 → lpX8_wrong_108 200 (nI i) (nI (3 + 4 * i)) (fun x28 x29 x30 x31 M32 => vp_in (nI (3 + 4 * i)) 50 ∧ vp_in (nI (3 + 4 * i)) 50 ∧ ∀ M33 : zM, M33 = va_up M32 (200 + 8) (upd (M32 (200 + 8)) (3 + 4 * i) (M32 (200 + 6) (3 + 4 * i))) → ∀ x34 : Int32, x34 = nI i + 1 → lpX8_wrong_84 200 C (d + 1) x28 x29 x30 x34 M33) (d2 + 1) x23 x24 x25 (nI v) P := by
        intro d2
        induction d2 with
        | zero =>
          intro v hv2 P x23 x24 x25 fP ⟨u, rP⟩ e23 eR
          obtain rfl : v = 61 := by omega
          unfold lpX8_wrong_108
          rw [cl_of (by omega)]
          refine ⟨fun _ => ⟨vp_of (by omega) (by omega), vp_of (by omega) (by omega), fun M33 e33 x34 e34 => ?_⟩, fun c => absurd (by decide) c⟩
          rw [e34, nI_1]
          have e33 : M33 = va_up P 208 (upd (P 208) (3 + 4 * i) (P 206 (3 + 4 * i))) := e33
          rw [fP 206 (by decide), show M 206 (3 + 4 * i) = V i from h6.2.2.2.1 i (by omega)] at e33
          have r33 := row_V (k := i) (v := V i) rP
          rw [upd_2, upd_id] at r33
          refine ih (i + 1) (by omega) M33 _ _ _ (fun x hx => by rw [e33, va_up_ne _ _ hx, fP x hx]) ?_ e23 eR
          rw [e33, va_up_self]; exact r33
        | succ d2 ih2 =>
          intro v hv2 P x23 x24 x25 fP ⟨u, rP⟩ e23 eR
          unfold lpX8_wrong_108
          rw [cl_of (by omega)]
          refine ⟨fun c => absurd c (nI_ge (a := v) (b := 61) (by omega) (by omega)), fun _ => ⟨vp_of (by omega) (by omega), fun M35 e35 => ?_⟩⟩
          have e35 : M35 = va_up P 208 (upd (P 208) (3 + 4 * i) (nI v)) := e35
          have r35 := row_V (k := i) (v := nI v) rP
          rw [upd_2] at r35
          have r35' : rowOf (M35 208) n W K (upd V i (nI v)) B zZ0 := by rw [e35, va_up_self]; exact r35
          have f35 : ∀ x, x ≠ 208 → M35 x = M x := fun x hx => by rw [e35, va_up_ne _ _ hx, fP x hx]
          refine p8_unevenR h1 h12 r35' ?_
          have eg := (gU_int (K := K) (zr_upd hv i (show v ≤ 60 by omega)) h12).1
          have ew : wRow (gG n K V) i (wAll (gG n K V) i) (v + 1) = wTry (gG n K V) i v (wRow (gG n K V) i (wAll (gG n K V) i) v) := rfl
          have ed : gG n K V i v = gU n K V - gU n K (upd V i (nI v)) := rfl
          have ih2 := ih2 (v + 1) (by omega) M35
          rw [ew] at ih2
          unfold wTry at ih2
          refine ⟨fun c x37 e37 => ?_, fun c x38 e38 => ?_⟩
          · rw [pn_le, eg, e23] at c
            rw [if_pos (by omega)] at ih2
            rw [e37, nI_1 v]
            exact ih2 _ _ _ f35 ⟨_, r35'⟩ e23 eR
          · rw [pn_le, eg, e23] at c
            rw [if_neg (by omega)] at ih2
            rw [e38, nI_1 v]
            refine ih2 _ _ _ f35 ⟨_, r35'⟩ ?_ (Or.inr ⟨i, v, by omega, by omega, rfl, rfl, rfl⟩)
            rw [eg]
            show _ = gU n K V - gG n K V i v
            omega
      exact ⟨62, key2 61 0 (by omega) N x12 x13 x14 fN ⟨V i, by rw [upd_id]; exact rN⟩ e2 e3⟩
  exact ⟨n + 1, key n 0 (by omega) M x12 _ _ (fun _ _ => rfl) hr (by rw [e12]; show _ = gU n K V - 0; omega) (Or.inl ⟨rfl, rfl, rfl⟩)⟩
section PWr
variable {S : zM → Prop}
theorem s_wrong (hS : sOwn S) : st_wrong (fun M _ => cAll S M) := by
  intro M J w hI
  obtain ⟨n, e7, e8, h12, hrn, hn0⟩ := rail_n hI.2.2.2.1
  have hrow : rowOf (M 206) n (M 20 1) (M 21) (M 22) (M 23) (M 24) := row_rel hI.2.2.2.1.1 e7 h12
  unfold wX7_wrong
  refine p2_isThere ?_
  show (¬ (if M 20 0 ≤ 0 then (0 : Int32) else 1) = 0 → _) ∧ ((if M 20 0 ≤ 0 then (0 : Int32) else 1) = 0 → _)
  rw [e7]
  by_cases hz : n = 0
  · rw [if_pos ((n_le0 h12).2 hz)]
    refine ⟨fun c => absurd rfl c, fun _ => ?_⟩
    unfold wX8_wrong
    refine p8_isRail ?_
    rw [e8, if_pos ((n_le0 h12).2 hz)]
    exact ⟨fun c => absurd rfl c, fun _ => ⟨rfl, hI⟩⟩
  · rw [if_neg (fun q => hz ((n_le0 h12).1 q))]
    refine ⟨fun _ => p7_within ⟨fun c => ?_, fun c => ?_⟩, fun c => absurd c (by decide)⟩
    · obtain ⟨h3, -, hok⟩ := rail_pos hI.2.2.2.1 e7 h12 (by omega)
      have hv : zr n (M 22) := fun k hk => (hok k hk).2.1
      refine p2_become (o0 := 25) (o1 := 20) e7 h12 (by omega) (fun A hA => ?_)
      have cA := took_cls hA e7
      unfold wX2_dropSlews
      refine pJ_fill (by omega) ?_
      obtain ⟨A2, eA2⟩ : ∃ A2, A2 = va_up A (0 + 25 + 4) (fun k => if k < 12 then (0 : Int32) else A (0 + 25 + 4) k) := ⟨_, rfl⟩
      rw [← eA2]
      have f2 : ∀ o, o ≠ 29 → A2 o = A o := fun o ho => by rw [eA2, va_up_ne _ _ ho]
      have c2 : clsOf A2 25 n (M 21) (M 22) (M 23) zZ0 := by
        refine ⟨?_, fun k hk => ?_, fun k hk => ?_, fun k hk => ?_, fun k hk => ?_⟩
        · rw [f2 25 (by decide)]; exact cA.1
        · rw [f2 (25 + 1) (by decide)]; exact cA.2.1 k hk
        · rw [f2 (25 + 2) (by decide)]; exact cA.2.2.1 k hk
        · rw [f2 (25 + 3) (by decide)]; exact cA.2.2.2.1 k hk
        · rw [eA2]
          show va_up A 29 _ 29 k = 0
          rw [va_up_self, if_pos (by omega)]
      refine p2_misread (by omega) h12 c2 hv (fun N r fN er => ?_)
      have fA : ∀ o, (o < 25 ∨ 30 ≤ o) → N o = M o := fun o ho => by rw [fN o ho, f2 o (by omega), hA.1 o (by omega)]
      have fin : ∀ a : Int32, (∀ x y, wR (wAll (gG n (M 21) (M 22)) n) x y → (¬ w = 0 → a = y) ∧ (w = 0 → a = x)) → wX8_wrong N 200 w (fun r2 M2 => a = r2 ∧ cAll S M2) := by
        intro a ha
        unfold wX8_wrong
        refine p8_isRail ?_
        rw [fA 206 (by omega), e8, if_neg (fun q => hz ((n_le0 h12).1 q))]
        refine ⟨fun _ => p8_in ⟨fun _ => p8_copies (a := 0) (b := 0) (by decide) (by omega) (by omega) (by omega) (by omega) ?_, fun q => absurd q c⟩, fun q => absurd q (by decide)⟩
        refine p8_zero (n := n) (W := M 20 1) (K := M 21) (V := M 22) (B := M 23) (S := M 24) h12 ?_ ?_ (fun P x fP rP => ?_)
        · rw [va_up_ne _ _ (by decide), fA (200 + 6) (by omega)]; exact e8
        · rw [va_up_self, fA (200 + 6) (by omega)]; exact row_cpy hrow h12
        · refine p8_unevenR (by omega) h12 rP ?_
          refine p8_wrongs (n := n) (W := M 20 1) (W6 := M 20 1) (K := M 21) (V := M 22) (B := M 23) (S6 := M 24) (by omega) h12 ?_ rP hv (gU_int hv h12).1 (fun R x y z u fR hR => ?_)
          · rw [fP 206 (by decide), va_up_ne _ _ (by decide), fA 206 (by omega)]; exact hrow
          · have g8 : ∀ o, (o < 25 ∨ 30 ≤ o) → o ≠ 208 → R o = M o := fun o h1 h2 => by rw [fR o h2, fP o h2, va_up_ne _ _ h2, fA o h1]
            have fc : cAll S R := all_fore hS hI (fun o h1 h2 h3 h4 h5 h6 h7 h8 h9 => g8 o h1 h7) (by rw [g8 0 (by omega) (by omega), g8 200 (by omega) (by omega)]; exact hI.2.1) (by rw [g8 200 (by omega) (by omega)]; exact ⟨rfl, rfl, rfl, rfl⟩) (by rw [g8 165 (by omega) (by omega)]; exact ⟨rfl, rfl⟩)
            exact ⟨fun q => ⟨(ha x y hR).1 q, fc⟩, fun q => ⟨(ha x y hR).2 q, fc⟩⟩
      refine ⟨fun z => ⟨fun q => fin _ (fun x y hR => ?_), fun q => fin _ (fun x y hR => ?_)⟩, fun z => fin _ (fun x y hR => ?_)⟩
      · rw [pn_le, t0, er] at z
        refine ⟨fun _ => ?_, fun q2 => absurd q2 q⟩
        rcases hR with ⟨b1, b2, b3⟩ | ⟨k, v, hk, hv, b1, b2, b3⟩
        · omega
        · have e : r = nI (64 * k + v) := by rw [pn_eq, er, b1, pn_n (by omega)]; omega
          rw [e, show (64 : Int32) = nI 64 from rfl, pk_rem (by omega) (by omega) (by omega), b3, show (64 * k + v) % 64 = v by omega]
      · rw [pn_le, t0, er] at z
        refine ⟨fun q2 => absurd q q2, fun _ => ?_⟩
        rcases hR with ⟨b1, b2, b3⟩ | ⟨k, v, hk, hv, b1, b2, b3⟩
        · omega
        · have e : r = nI (64 * k + v) := by rw [pn_eq, er, b1, pn_n (by omega)]; omega
          rw [e, show (64 : Int32) = nI 64 from rfl, pk_div (by omega) (by omega) (by omega), b2, show (64 * k + v) / 64 = k by omega]
      · rw [pn_le, t0, er] at z
        rcases hR with ⟨b1, b2, b3⟩ | ⟨k, v, hk, hv, b1, b2, b3⟩
        · exact ⟨fun _ => b3.symm, fun _ => b2.symm⟩
        · omega
    · unfold wX8_wrong
      refine p8_isRail ?_
      rw [e8, if_neg (fun q => hz ((n_le0 h12).1 q))]
      exact ⟨fun _ => p8_in ⟨fun q => absurd c q, fun _ => ⟨rfl, hI⟩⟩, fun q => absurd q (by decide)⟩
end PWr
