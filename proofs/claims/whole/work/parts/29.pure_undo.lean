/-! PURE: bound(), undo(), image(), restore() -/
def zclamp (m s : Int32) : Int32 := if s ≤ m then (if -m ≤ s then s else -m) else m
theorem zclamp_of {m s : Int32} (h1 : 0 ≤ m.toInt) (h2 : m.toInt ≤ 3) : zmax (-m) (zmin m s) = zclamp m s := by
  have em : (-m).toInt = -m.toInt := by
    rw [Int32.toInt_neg]; exact pn_bm (by omega) (by omega)
  unfold zclamp zmax zmin
  by_cases c : s ≤ m
  · rw [if_pos c]
    have hz : (if s < m then s else m) = s := by
      by_cases c2 : s < m
      · rw [if_pos c2]
      · rw [if_neg c2]; rw [pn_le] at c; rw [pn_lt] at c2; rw [pn_eq]; omega
    rw [hz]
    by_cases d : -m ≤ s
    · rw [if_pos d]
      by_cases f : -m < s
      · rw [if_pos f]
      · rw [if_neg f]
        rw [pn_le] at d; rw [pn_lt] at f; rw [pn_eq]; omega
    · rw [if_neg d, if_neg (show ¬ -m < s by rw [pn_le] at d; rw [pn_lt]; omega)]
  · rw [if_neg c]
    rw [pn_le] at c
    rw [if_neg (show ¬ s < m by rw [pn_lt]; omega)]
    by_cases f : -m < m
    · rw [if_pos f]
    · rw [if_neg f]
      rw [pn_lt] at f; rw [pn_eq]; omega
theorem zclamp_rng {m s : Int32} (h1 : 0 ≤ m.toInt) (h2 : m.toInt ≤ 3) : -3 ≤ (zclamp m s).toInt ∧ (zclamp m s).toInt ≤ 3 := by
  have em : (-m).toInt = -m.toInt := by
    rw [Int32.toInt_neg]; exact pn_bm (by omega) (by omega)
  unfold zclamp
  by_cases c : s ≤ m
  · rw [if_pos c]
    rw [pn_le] at c
    by_cases d : -m ≤ s
    · rw [if_pos d]; rw [pn_le] at d; omega
    · rw [if_neg d]; omega
  · rw [if_neg c]; omega
theorem fReach_rng {K B : Nat → Int32} {k : Nat} (h1 : 0 ≤ (B k).toInt) (h2 : (B k).toInt ≤ 3) : 0 ≤ (fReach K B k).toInt ∧ (fReach K B k).toInt ≤ 3 := by
  unfold fReach
  split
  · rw [t0]; omega
  · split
    · split
      · rw [t0]; omega
      · rename_i q
        rw [pn_le, t0] at q
        rw [pn_sub (by rw [t1]; omega) (by rw [t1]; omega), t1]; omega
    · omega
section PU
variable {S : zM → Prop}
theorem s_bound (hS : sOwn S) : st_bound (fun M _ => cAll S M) := by
  intro M J a v hI
  obtain ⟨n, e7, e8, h12, hrn, hn0⟩ := rail_n hI.2.2.2.1
  obtain ⟨rk, rv, rb, rs⟩ := rel_fun hI.2.2.2.1.1 hrn
  obtain ⟨h, x, hh, hx, h24, x24, h8, hs⟩ := hist_n hI.2.2.2.2.2.1
  unfold wX7_bound
  refine p7_isPeg ?_
  rw [e7]
  refine ⟨fun c => ?_, fun c => p7_within ⟨fun c2 => ?_, fun c2 => ?_⟩⟩
  · unfold wX8_bound
    refine p8_isPeg ?_
    rw [e8]
    exact ⟨fun _ => ⟨rfl, hI⟩, fun q => absurd c q⟩
  · obtain ⟨k, hk, rfl⟩ := zin_nat (by omega) c
    have hok2 : rok M 20 := hn0.elim (fun q => by omega) (fun q => q.2)
    obtain ⟨v1, v2⟩ := zin_in c2
    rw [show (0 : Int32).toInt = 0 from rfl] at v1
    rw [show (3 : Int32).toInt = 3 from rfl] at v2
    refine p7_keep e7 h12 hh hx h24 x24 (fun K hK => ⟨vp_of (by omega) (by omega), vp_of (by omega) (by omega), fun A0 eA0 => ?_⟩)
    rw [cl_of (by omega)] at eA0
    have eA0 : A0 = va_up K 23 (upd (K 23) k v) := eA0
    have kk : ∀ y, y ≠ 41 → (y < 43 ∨ 163 ≤ y) → K y = M y := fun y h1 h2 => hK.2.2.2 y h1 (by omega)
    have f0 : ∀ o, o ≠ 23 → A0 o = K o := fun o ho => by rw [eA0, va_up_ne _ _ ho]
    have f0' : ∀ o, o < 41 → o ≠ 23 → A0 o = M o := fun o h1 h2 => by rw [f0 o h2, kk o (by omega) (by omega)]
    have f23 : A0 23 = upd (M 23) k v := by rw [eA0, va_up_self, kk 23 (by decide) (by omega)]
    have hbk : (A0 23 k).toInt = v.toInt := by rw [f23, pk_us]
    have e70 : A0 20 0 = nI n := by rw [f0' 20 (by omega) (by omega)]; exact e7
    refine p2_reach (o := 20) e70 h12 hk (by show 0 ≤ (A0 23 k).toInt ∧ (A0 23 k).toInt ≤ 3; omega) ?_
    obtain ⟨r1, r2⟩ := fReach_rng (K := A0 21) (B := A0 23) (k := k) (by omega) (by omega)
    obtain ⟨R, hR⟩ : ∃ R, R = fReach (A0 21) (A0 23) k := ⟨_, rfl⟩
    rw [← hR] at r1 r2
    show vp_in (nI k) 12 ∧ _
    rw [show fReach (A0 (20 + 1)) (A0 (20 + 3)) k = R from hR.symm]
    refine ⟨vp_of (by omega) (by omega), fun x10 e10 => ⟨vp_of (by omega) (by omega), fun A eA => ?_⟩⟩
    have s24 : A0 24 = M 24 := f0' 24 (by omega) (by omega)
    rw [e10, cl_of (by omega)] at eA
    have eA : A = va_up A0 24 (upd (A0 24) k (zmax (-R) (zmin R (A0 24 k)))) := eA
    rw [zclamp_of r1 r2, s24] at eA
    obtain ⟨c1, c2'⟩ := zclamp_rng (m := R) (s := M 24 k) r1 r2
    have fA : ∀ o, o ≠ 23 → o ≠ 24 → A o = K o := fun o h1 h2 => by rw [eA, va_up_ne _ _ h2, f0 o h1]
    have a23 : A 23 = upd (M 23) k v := by rw [eA, va_up_ne _ _ (by decide), f23]
    have a24 : A 24 = upd (M 24) k (zclamp R (M 24 k)) := by rw [eA, va_up_self]
    have a206 : A 206 = M 206 := by rw [fA 206 (by decide) (by decide), kk 206 (by decide) (by omega)]
    unfold wX8_bound
    refine p8_isPeg ?_
    rw [a206, e8]
    refine ⟨fun q => absurd q c, fun _ => p8_in ⟨fun _ => p8_notes (by rw [fA 200 (by decide) (by decide), kk 200 (by decide) (by omega)]; exact h8) h24 (fun B hB => ?_), fun q => absurd q c2⟩⟩
    have b206 : B 206 = M 206 := (hB.1 206 (by decide) (by decide)).trans a206
    intro x8 e8'
    rw [show (((2 : Int32) + 4 * nI k) + 2) = nI (2 + 4 * k + 2) from nI_4c k 2] at e8'
    rw [e8']
    refine ⟨vp_of (by omega) (by omega), fun x9 e9 => ?_⟩
    rw [show (((2 : Int32) + 4 * nI k) + 2) = nI (2 + 4 * k + 2) from nI_4c k 2] at e9
    rw [e9]
    refine ⟨vp_of (by omega) (by omega), fun N0 eN0 => ?_⟩
    rw [cl_of (by omega), show 2 + 4 * k + 2 = 4 + 4 * k by omega] at eN0
    have eN0 : N0 = va_up B 206 (upd (B 206) (4 + 4 * k) v) := eN0
    have n206 : N0 206 = upd (M 206) (4 + 4 * k) v := by rw [eN0, va_up_self, b206]
    refine p8_reach (o := 206) (by omega) (by omega) (by omega) ?_
    have hR8 : fReach (rK (N0 206)) (rB (N0 206)) k = R := by
      rw [hR]
      unfold fReach
      have q1 : rK (N0 206) k = A0 21 k := by
        rw [f0' 21 (by omega) (by omega), n206, ← rk k hk]
        exact pk_un (by omega)
      have q2 : rB (N0 206) k = A0 23 k := by
        rw [f23, n206, pk_us]
        exact pk_us
      rw [q1, q2]
    rw [hR8]
    intro x12 e12
    rw [show (((2 : Int32) + 4 * nI k) + 3) = nI (2 + 4 * k + 3) from nI_4c k 3] at e12
    rw [e12]
    refine ⟨vp_of (by omega) (by omega), fun x13 e13 => ?_⟩
    rw [show (((2 : Int32) + 4 * nI k) + 3) = nI (2 + 4 * k + 3) from nI_4c k 3] at e13
    rw [e13, cl_of (by omega), cl_of (by omega), show 2 + 4 * k + 3 = 5 + 4 * k by omega, show 2 + 4 * k + 2 = 4 + 4 * k by omega]
    rw [cl_of (by omega)]
    have ns : N0 (200 + 6) (5 + 4 * k) = M 24 k := by
      show N0 206 _ = _
      rw [n206, pk_un (by omega)]; exact rs k hk
    rw [ns]
    have fin : ∀ N : zM, N = va_up N0 206 (upd (N0 206) (5 + 4 * k) (zclamp R (M 24 k))) → K 23 k = B 206 (4 + 4 * k) ∧ cAll S N := by
      intro N eN
      have g : ∀ o, o ≠ 206 → N o = B o := fun o ho => by rw [eN, va_up_ne _ _ ho, eN0, va_up_ne _ _ ho]
      have g2 : ∀ o, o < 41 → N o = A o := fun o h1 => by rw [g o (by omega), hB.1 o (by omega) (by omega)]
      have g3 : ∀ o, o < 41 → o ≠ 23 → o ≠ 24 → N o = M o := fun o h1 h2 h3 => by rw [g2 o h1, fA o h2 h3, kk o (by omega) (by omega)]
      have N1r : rel N 20 (N 206) 0 := by
        refine rel_put (M := A0) (f := 3) (k := k) (v := zclamp R (M 24 k)) (w := N0 206) (n := n) ?_ (by rw [rn_of (f0' 20 (by omega) (by omega))]; exact hrn) (by omega) ?_ ?_ ?_ ?_
        · exact rel_put (M := M) (f := 2) (k := k) (v := v) (w := M 206) hI.2.2.2.1.1 hrn (by omega) (f0' 20 (by omega) (by omega)) f23 (fun f hf hf2 => f0' _ (by omega) (by omega)) (by rw [n206, show 2 + 2 + 4 * k = 4 + 4 * k by omega])
        · rw [g3 20 (by omega) (by omega) (by omega), f0' 20 (by omega) (by omega)]
        · show N 24 = upd (A0 24) _ _; rw [g2 24 (by omega), a24, s24]
        · intro f hf hf2
          by_cases q : f = 2
          · subst q; show N 23 = A0 23; rw [g2 23 (by omega), a23, f23]
          · rw [g3 _ (by omega) (by omega) (by omega), f0' _ (by omega) (by omega)]
        · rw [eN, va_up_self, show 2 + 3 + 4 * k = 5 + 4 * k by omega]
      have N1k : rok N 20 := by
        refine rok_put (M := A0) (f := 3) (k := k) (v := zclamp R (M 24 k)) ?_ (by omega) ?_ ?_ ?_ ⟨fun q => by omega, fun q => by omega, fun q => by omega, fun _ => ⟨c1, c2'⟩⟩
        · exact rok_put (M := M) (f := 2) (k := k) (v := v) hok2 (by omega) (f0' 20 (by omega) (by omega)) f23 (fun f hf hf2 => f0' _ (by omega) (by omega)) ⟨fun q => by omega, fun q => by omega, fun _ => by omega, fun q => by omega⟩
        · rw [g3 20 (by omega) (by omega) (by omega), f0' 20 (by omega) (by omega)]
        · show N 24 = upd (A0 24) _ _; rw [g2 24 (by omega), a24, s24]
        · intro f hf hf2
          by_cases q : f = 2
          · subst q; show N 23 = A0 23; rw [g2 23 (by omega), a23, f23]
          · rw [g3 _ (by omega) (by omega) (by omega), f0' _ (by omega) (by omega)]
      refine ⟨?_, all_act hS hI hh hx h24 x24 hs hok2 hrn hK (fun o ho => fA o (by omega) (by omega)) hB g ⟨N1r, Or.inr N1k⟩⟩
      rw [b206, kk 23 (by decide) (by omega)]; exact (rb k hk).symm
    refine ⟨fun d => ⟨fun f => ⟨vp_of (by omega) (by omega), fun N eN => ?_⟩, fun f => ⟨vp_of (by omega) (by omega), fun N eN => ?_⟩⟩, fun d => ⟨vp_of (by omega) (by omega), fun N eN => ?_⟩⟩
    · refine fin N ?_; rw [eN]; unfold zclamp; rw [if_pos d, if_pos f]
    · refine fin N ?_; rw [eN]; unfold zclamp; rw [if_pos d, if_neg f]
    · refine fin N ?_; rw [eN]; unfold zclamp; rw [if_neg d]
  · unfold wX8_bound
    refine p8_isPeg ?_
    rw [e8]
    exact ⟨fun _ => ⟨rfl, hI⟩, fun _ => p8_in ⟨fun q => absurd c2 q, fun _ => ⟨rfl, hI⟩⟩⟩
theorem s_undo (hS : sOwn S) : st_undo (fun M _ => cAll S M) := by
  intro M J hI
  obtain ⟨h, x, hh, hx, h24, x24, h8, hs⟩ := hist_n hI.2.2.2.2.2.1
  unfold wX7_undo
  refine ⟨fun c => ?_, fun c => ?_⟩
  · have hp : 0 < h := by
      by_cases q : h = 0
      · exact absurd (by rw [show M (0 + 41) 0 = nI h from hh, q]; rfl) c
      · omega
    unfold wX1_bringBack
    intro x4 e4
    have hx' : M (0 + 41) 1 = nI x := hx
    rw [hx', show nI x + (24 : Int32) = nI (x + 24) from nI_add x 24, nm1 (by omega), show (24 : Int32) = nI 24 from rfl, pk_rem (by omega) (by omega) (by omega)] at e4
    refine ⟨fun q => absurd q c, fun _ => ?_⟩
    obtain ⟨y, hy⟩ : ∃ y, y = (x + 24 - 1) % 24 := ⟨_, rfl⟩
    rw [← hy] at e4
    have y24 : y < 24 := by rw [hy]; exact Nat.mod_lt _ (by omega)
    obtain ⟨s1, s2⟩ := hs (h - 1) (by omega)
    rw [show (x + 24 - h + (h - 1)) % 24 = y by rw [hy]; omega] at s1 s2
    obtain ⟨-, n, en, n3, n12, nn⟩ := rok_rn s1
    have nz : ¬ M (43 + 5 * y) 0 = 0 := by rw [en, pn_eq, pn_n (by omega), t0]; omega
    rw [e4, cl_of (by omega), show 0 + 41 + 1 + 1 + 5 * y = 43 + 5 * y by omega]
    refine ⟨vp_of y24 (by omega), nz, vp_of y24 (by omega), nz, p2_become (o0 := 20) en n12 (by omega) (fun A hA => ?_)⟩
    intro A2 eA2 A3 eA3
    have fA : ∀ o, o ≠ 41 → A3 o = A o := fun o ho => by rw [eA3, va_up_ne _ _ (show o ≠ 0 + 41 by omega), eA2, va_up_ne _ _ (show o ≠ 0 + 41 by omega)]
    have a410 : A3 41 0 = nI (h - 1) := by
      rw [eA3]
      show va_up A2 41 (upd (A2 41) 0 (A2 41 0 - 1)) 41 0 = _
      rw [va_up_self, pk_us, eA2]
      show va_up A 41 (upd (A 41) 1 (nI y)) 41 0 - 1 = _
      rw [va_up_self, pk_un (by decide), hA.1 41 (by omega), hh, nm1 (by omega)]
    have a411 : A3 41 1 = nI y := by
      rw [eA3]
      show va_up A2 41 (upd (A2 41) 0 (A2 41 0 - 1)) 41 1 = _
      rw [va_up_self, pk_un (by decide), eA2]
      show va_up A 41 (upd (A 41) 1 (nI y)) 41 1 = _
      rw [va_up_self, pk_us]
    have a200 : A3 200 = M 200 := by rw [fA 200 (by decide), hA.1 200 (by omega)]
    show wX8_undo A3 200 _
    unfold wX8_undo
    rw [a200]
    refine ⟨fun _ => ?_, fun q => ?_⟩
    · intro B eB
      have eB : B = va_up A3 200 (upd (M 200) 8 (nI (h - 1))) := by rw [eB, h8, nm1 (by omega)]
      have b8 : B 200 8 = nI (h - 1) := by rw [eB, va_up_self, pk_us]
      have fB : ∀ o, o ≠ 200 → B o = A3 o := fun o ho => by rw [eB, va_up_ne _ _ ho]
      rw [b8, show (50 : Int32) * nI (h - 1) = nI (50 * (h - 1)) from pk_mul 50 (h - 1)]
      refine p8_copies (b := 0) (by decide) (by omega) (by omega) (by omega) (by omega) ?_
      obtain ⟨N, eN⟩ : ∃ N, N = va_up B 206 (va_cpy (B 209) (B 206) (50 * (h - 1)) 0 50) := ⟨_, rfl⟩
      show A3 41 0 = va_up B 206 (va_cpy (B 209) (B 206) (50 * (h - 1)) 0 50) 200 8 ∧ cAll S (va_up B 206 (va_cpy (B 209) (B 206) (50 * (h - 1)) 0 50))
      rw [← eN]
      have fN : ∀ o, o ≠ 206 → N o = B o := fun o ho => by rw [eN, va_up_ne _ _ ho]
      have g : ∀ o, o ≠ 41 → o ≠ 200 → o ≠ 206 → (o < 20 ∨ 24 < o) → N o = M o := fun o h1 h2 h3 h4 => by rw [fN o h3, fB o h2, fA o h1, hA.1 o (by omega)]
      have nv : ∀ k, k ≠ 8 → N 200 k = M 200 k := fun k hk => by rw [fN 200 (by decide), eB, va_up_self, pk_un hk]
      have n206 : ∀ i, i < 50 → N 206 (0 + i) = M 209 (50 * (h - 1) + i) := fun i hi => by
        rw [eN, va_up_self, pk_cpy_in (by omega) (by omega), fB 209 (by decide), fA 209 (by decide), hA.1 209 (by omega)]
        congr 1; omega
      have sm : same M (43 + 5 * y) N 20 n := by
        unfold same
        rw [fN 20 (by decide), fN (20 + 1) (by decide), fN (20 + 2) (by decide), fN (20 + 3) (by decide), fN (20 + 4) (by decide), fB 20 (by decide), fB (20 + 1) (by decide), fB (20 + 2) (by decide), fB (20 + 3) (by decide), fB (20 + 4) (by decide), fA 20 (by decide), fA (20 + 1) (by decide), fA (20 + 2) (by decide), fA (20 + 3) (by decide), fA (20 + 4) (by decide)]
        exact hA.2
      refine ⟨by rw [a410, fN 200 (by decide), b8], all_fr hS hI (fun o ho => g o (by unfold zk at ho; omega) (by unfold zk at ho; omega) (by unfold zk at ho; omega) (by unfold zk at ho; omega)) ⟨nv 0 (by decide), nv 1 (by decide), nv 2 (by decide), nv 11 (by decide)⟩ (by rw [g 165 (by decide) (by decide) (by decide) (by omega)]; exact ⟨rfl, rfl⟩) ⟨?_, Or.inr (same_rok sm nn s1)⟩ ?_⟩
      · refine rel_w (same_rel sm nn s2) ?_ n206
        have : rn N 20 = n := by unfold rn; rw [sm.1]; exact nn
        omega
      · have n410 : N 41 0 = nI (h - 1) := by rw [fN 41 (by decide), fB 41 (by decide)]; exact a410
        have n411 : N 41 1 = nI y := by rw [fN 41 (by decide), fB 41 (by decide)]; exact a411
        refine ⟨by rw [n410, fN 200 (by decide), b8], h - 1, y, n410, n411, by omega, y24, fun j hj => ?_⟩
        obtain ⟨q1, q2⟩ := hs j (by omega)
        rw [show (y + 24 - (h - 1) + j) % 24 = (x + 24 - h + j) % 24 by omega, g 209 (by decide) (by decide) (by decide) (by omega)]
        obtain ⟨z, hz⟩ : ∃ z, z = (x + 24 - h + j) % 24 := ⟨_, rfl⟩
        have z24 : z < 24 := by rw [hz]; exact Nat.mod_lt _ (by omega)
        rw [← hz] at q1 q2 ⊢
        exact ⟨rok_of q1 (g _ (by omega) (by omega) (by omega) (by omega)) (g _ (by omega) (by omega) (by omega) (by omega)) (g _ (by omega) (by omega) (by omega) (by omega)) (g _ (by omega) (by omega) (by omega) (by omega)) (g _ (by omega) (by omega) (by omega) (by omega)), rel_of q2 (g _ (by omega) (by omega) (by omega) (by omega)) (g _ (by omega) (by omega) (by omega) (by omega)) (g _ (by omega) (by omega) (by omega) (by omega)) (g _ (by omega) (by omega) (by omega) (by omega)) (g _ (by omega) (by omega) (by omega) (by omega))⟩
    · rw [h8, pn_eq, pn_n (by omega), t0] at q; omega
  · have c : M 41 0 = 0 := c
    unfold wX8_undo
    have : M 200 8 = 0 := by rw [← hI.2.2.2.2.2.1.1]; exact c
    exact ⟨fun q => absurd this q, fun _ => ⟨rfl, hI⟩⟩
theorem s_image (hS : sOwn S) : st_image (fun M _ => cAll S M) := by
  intro M J a hI
  obtain ⟨n, e7, e8, h12, hrn, hn0⟩ := rail_n hI.2.2.2.1
  unfold wX7_image
  refine p7_within ⟨fun c => ?_, fun c => ?_⟩
  · obtain ⟨k, hk, rfl⟩ := zin_lit (n := 1) rfl c
    refine p2_isThere ?_
    show (¬ (if M 20 0 ≤ 0 then (0 : Int32) else 1) = 0 → _) ∧ ((if M 20 0 ≤ 0 then (0 : Int32) else 1) = 0 → _)
    rw [e7]
    by_cases hz : n = 0
    · rw [if_pos ((n_le0 h12).2 hz)]
      refine ⟨fun q => absurd rfl q, fun _ => ?_⟩
      unfold wX8_image
      refine p8_in ⟨fun _ => p8_isRail ?_, fun q => absurd q c⟩
      rw [e8, if_pos ((n_le0 h12).2 hz)]
      exact ⟨fun q => absurd rfl q, fun _ => ⟨rfl, hI⟩⟩
    · rw [if_neg (fun q => hz ((n_le0 h12).1 q))]
      have hok2 : rok M 20 := hn0.elim (fun q => by omega) (fun q => q.2)
      refine ⟨fun _ => ⟨vp_of (by omega) (by omega), ?_⟩, fun q => absurd q (by decide)⟩
      rw [cl_of (by omega), show 0 + 30 + 1 + 5 * k = 31 + 5 * k by omega]
      refine p2_become (o1 := 20) e7 h12 (by omega) (fun A hA => ?_)
      have fA : ∀ o, (o < 31 + 5 * k ∨ 31 + 5 * k + 4 < o) → A o = M o := hA.1
      unfold wX8_image
      refine p8_in ⟨fun _ => p8_isRail ?_, fun q => absurd q c⟩
      rw [fA 206 (by omega), e8, if_neg (fun q => hz ((n_le0 h12).1 q))]
      refine ⟨fun _ => ?_, fun q => absurd q (by decide)⟩
      rw [show (50 : Int32) * nI k = nI (50 * k) from pk_mul 50 k]
      refine p8_copies (a := 0) (by decide) (by omega) (by omega) (by omega) (by omega) ?_
      refine ⟨vp_of (by omega) (by omega), fun N eN => ⟨rfl, ?_⟩⟩
      rw [cl_of (by omega)] at eN
      have eN : N = va_up (va_up A 210 (va_cpy (A 206) (A 210) 0 (50 * k) 50)) 211 (upd (va_up A 210 (va_cpy (A 206) (A 210) 0 (50 * k) 50) 211) k 1) := eN
      rw [va_up_ne _ _ (by decide)] at eN
      have n211 : N 211 = upd (M 211) k 1 := by rw [eN, va_up_self, fA 211 (by omega)]
      have n210 : N 210 = va_cpy (M 206) (M 210) 0 (50 * k) 50 := by rw [eN, va_up_ne _ _ (by decide), va_up_self, fA 206 (by omega), fA 210 (by omega)]
      have fN : ∀ o, o ≠ 210 → o ≠ 211 → N o = A o := fun o h1 h2 => by rw [eN, va_up_ne _ _ h2, va_up_ne _ _ h1]
      have g : ∀ o, (o < 31 + 5 * k ∨ 31 + 5 * k + 4 < o) → o ≠ 210 → o ≠ 211 → N o = M o := fun o h1 h2 h3 => by rw [fN o h2 h3, fA o h1]
      have sm : same M 20 N (31 + 5 * k) n := by
        unfold same
        rw [fN _ (by omega) (by omega), fN (31 + 5 * k + 1) (by omega) (by omega), fN (31 + 5 * k + 2) (by omega) (by omega), fN (31 + 5 * k + 3) (by omega) (by omega), fN (31 + 5 * k + 4) (by omega) (by omega)]
        exact hA.2
      have here : cImg N k := by
        right
        refine ⟨by rw [n211, pk_us]; decide, same_rok sm hrn hok2, rel_w (same_rel sm hrn hI.2.2.2.1.1) ?_ (fun i hi => ?_)⟩
        · have : rn N (31 + 5 * k) = n := by unfold rn; rw [sm.1]; exact hrn
          omega
        · rw [n210, pk_cpy_in (by omega) (by omega)]
          congr 1; omega
      have there : ∀ j, j < 2 → j ≠ k → cImg M j → cImg N j := by
        intro j hj hjk hm
        unfold cImg
        rw [n211, pk_un hjk]
        rcases hm with ⟨q1, q2⟩ | ⟨q1, q2, q3⟩
        · left; exact ⟨q1, by rw [g _ (by omega) (by omega) (by omega)]; exact q2⟩
        · right
          refine ⟨q1, rok_of q2 (g _ (by omega) (by omega) (by omega)) (g _ (by omega) (by omega) (by omega)) (g _ (by omega) (by omega) (by omega)) (g _ (by omega) (by omega) (by omega)) (g _ (by omega) (by omega) (by omega)), rel_w (rel_of q3 (g _ (by omega) (by omega) (by omega)) (g _ (by omega) (by omega) (by omega)) (g _ (by omega) (by omega) (by omega)) (g _ (by omega) (by omega) (by omega)) (g _ (by omega) (by omega) (by omega))) ?_ (fun i hi => ?_)⟩
          · rw [rn_of (g _ (by omega) (by omega) (by omega))]; exact (rok_rn q2).1
          · rw [n210, pk_cpy_out (by omega)]
      obtain ⟨a, b, cc, d, ⟨f0, f1⟩, gg, i, j, kx⟩ := hI
      refine ⟨fun r hr => cRow_of (a r hr) (by rw [g 201 (by omega) (by omega) (by omega)]) (by rw [g 202 (by omega) (by omega) (by omega)]) (fun k _ => by rw [g 203 (by omega) (by omega) (by omega)]) (g _ (by omega) (by omega) (by omega)) (g _ (by omega) (by omega) (by omega)), by rw [g 0 (by omega) (by omega) (by omega), g 200 (by omega) (by omega) (by omega)]; exact b, cTape_of cc (g _ (by omega) (by omega) (by omega)) (g _ (by omega) (by omega) (by omega)) (by rw [g 200 (by omega) (by omega) (by omega)]) (by rw [g 200 (by omega) (by omega) (by omega)]) (g _ (by omega) (by omega) (by omega)), cRail_of d (g _ (by omega) (by omega) (by omega)) (g _ (by omega) (by omega) (by omega)) (g _ (by omega) (by omega) (by omega)) (g _ (by omega) (by omega) (by omega)) (g _ (by omega) (by omega) (by omega)) (g _ (by omega) (by omega) (by omega)), ⟨?_, ?_⟩, cHist_of gg (by rw [g 200 (by omega) (by omega) (by omega)]) (fun o h1 h2 => g o (by omega) (by omega) (by omega)) (g _ (by omega) (by omega) (by omega)), cAsk_of i (g _ (by omega) (by omega) (by omega)) (g _ (by omega) (by omega) (by omega)) (by rw [g 200 (by omega) (by omega) (by omega)]) (g _ (by omega) (by omega) (by omega)), cSet_of j (by rw [g 165 (by omega) (by omega) (by omega)]) (by rw [g 165 (by omega) (by omega) (by omega)]), hS M N kx (fun o h1 h2 => g o (by omega) (by omega) (by omega))⟩
      · by_cases q : 0 = k
        · subst q; exact here
        · exact there 0 (by omega) q f0
      · by_cases q : 1 = k
        · subst q; exact here
        · exact there 1 (by omega) q f1
  · unfold wX8_image
    exact p8_in ⟨fun q => absurd c q, fun _ => ⟨rfl, hI⟩⟩
theorem s_restore (hS : sOwn S) : st_restore (fun M _ => cAll S M) := by
  intro M J a hI
  unfold wX7_restore
  refine p7_within ⟨fun c => ?_, fun c => ?_⟩
  · obtain ⟨k, hk, rfl⟩ := zin_lit (n := 1) rfl c
    have hi : cImg M k := by
      match k, hk with
      | 0, _ => exact hI.2.2.2.2.1.1
      | 1, _ => exact hI.2.2.2.2.1.2
    refine ⟨vp_of (by omega) (by omega), ?_⟩
    rw [cl_of (by omega), show 0 + 30 + 1 + 5 * k = 31 + 5 * k by omega]
    refine p2_isThere ?_
    rcases hi with ⟨q1, q2⟩ | ⟨q1, q2, q3⟩
    · rw [q2, if_pos (by decide)]
      refine ⟨fun q => absurd rfl q, fun _ => ?_⟩
      unfold wX8_restore
      refine p8_in ⟨fun _ => ⟨vp_of (by omega) (by omega), ?_⟩, fun q => absurd q c⟩
      rw [cl_of (by omega)]
      exact ⟨fun q => absurd q1 q, fun _ => ⟨rfl, hI⟩⟩
    · obtain ⟨-, n, en, n3, n12, nn⟩ := rok_rn q2
      rw [en, if_neg (fun q => by have := (n_le0 n12).1 q; omega)]
      refine ⟨fun _ => ⟨vp_of (by omega) (by omega), p2_become (o0 := 20) en n12 (by omega) (fun A hA => ?_)⟩, fun q => absurd q (by decide)⟩
      intro A2 eA2
      have fA : ∀ o, o ≠ 41 → A2 o = A o := fun o ho => by rw [eA2, va_up_ne _ _ (show o ≠ 0 + 41 by omega)]
      have fA' : ∀ o, o ≠ 41 → (o < 20 ∨ 24 < o) → A2 o = M o := fun o h1 h2 => by rw [fA o h1, hA.1 o h2]
      have a41 : A2 41 = upd (M 41) 0 0 := by rw [eA2]; show va_up A 41 (upd (A 41) 0 0) 41 = _; rw [va_up_self, hA.1 41 (by omega)]
      unfold wX8_restore
      refine p8_in ⟨fun _ => ⟨vp_of (by omega) (by omega), ?_⟩, fun q => absurd q c⟩
      rw [cl_of (by omega), fA' (200 + 11) (by omega) (by omega)]
      refine ⟨fun _ => ?_, fun q => absurd q q1⟩
      rw [show (50 : Int32) * nI k = nI (50 * k) from pk_mul 50 k]
      refine p8_copies (b := 0) (by decide) (by omega) (by omega) (by omega) (by omega) ?_
      intro N eN
      have eN : N = va_up (va_up A2 206 (va_cpy (A2 210) (A2 206) (50 * k) 0 50)) 200 (upd (va_up A2 206 (va_cpy (A2 210) (A2 206) (50 * k) 0 50) 200) 8 0) := eN
      rw [va_up_ne _ _ (by decide)] at eN
      have fN : ∀ o, o ≠ 200 → o ≠ 206 → N o = A2 o := fun o h1 h2 => by rw [eN, va_up_ne _ _ h1, va_up_ne _ _ h2]
      have n200 : N 200 = upd (M 200) 8 0 := by rw [eN, va_up_self, fA' 200 (by decide) (by omega)]
      have n206 : ∀ i, i < 50 → N 206 (0 + i) = M 210 (50 * k + i) := fun i hi => by
        rw [eN, va_up_ne _ _ (by decide), va_up_self, pk_cpy_in (by omega) (by omega), fA' 210 (by decide) (by omega)]
        congr 1; omega
      have g : ∀ o, o ≠ 41 → o ≠ 200 → o ≠ 206 → (o < 20 ∨ 24 < o) → N o = M o := fun o h1 h2 h3 h4 => by rw [fN o h2 h3, fA' o h1 h4]
      have nv : ∀ k, k ≠ 8 → N 200 k = M 200 k := fun k hk => by rw [n200, pk_un hk]
      have sm : same M (31 + 5 * k) N 20 n := by
        unfold same
        rw [fN 20 (by decide) (by decide), fN (20 + 1) (by decide) (by decide), fN (20 + 2) (by decide) (by decide), fN (20 + 3) (by decide) (by decide), fN (20 + 4) (by decide) (by decide), fA 20 (by decide), fA (20 + 1) (by decide), fA (20 + 2) (by decide), fA (20 + 3) (by decide), fA (20 + 4) (by decide)]
        exact hA.2
      refine ⟨rfl, all_fr hS hI (fun o ho => g o (by unfold zk at ho; omega) (by unfold zk at ho; omega) (by unfold zk at ho; omega) (by unfold zk at ho; omega)) ⟨nv 0 (by decide), nv 1 (by decide), nv 2 (by decide), nv 11 (by decide)⟩ (by rw [g 165 (by decide) (by decide) (by decide) (by omega)]; exact ⟨rfl, rfl⟩) ⟨?_, Or.inr (same_rok sm nn q2)⟩ ?_⟩
      · refine rel_w (same_rel sm nn q3) ?_ n206
        have : rn N 20 = n := by unfold rn; rw [sm.1]; exact nn
        omega
      · obtain ⟨h, x, hh, hx, h24, x24, h8, hs⟩ := hist_n hI.2.2.2.2.2.1
        have n41 : N 41 = upd (M 41) 0 0 := by rw [fN 41 (by decide) (by decide), a41]
        refine ⟨by rw [n41, n200, pk_us, pk_us], 0, x, by rw [n41, pk_us]; rfl, by rw [n41, pk_un (by decide)]; exact hx, by omega, x24, fun j hj => by omega⟩
  · unfold wX8_restore
    exact p8_in ⟨fun q => absurd c q, fun _ => ⟨rfl, hI⟩⟩
end PU
