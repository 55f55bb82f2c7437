/-! PURE: a rail taken over; acts are kept -/
/-- N is M but that the rail at o0 is as the one at o1 -/
def took (M N : zM) (o0 o1 n : Nat) : Prop := (∀ x, x < o0 ∨ o0 + 4 < x → N x = M x) ∧ N o0 0 = M o1 0 ∧ N o0 1 = M o1 1 ∧ ∀ k, k < n → N (o0 + 1) k = M (o1 + 1) k ∧ N (o0 + 2) k = M (o1 + 2) k ∧ N (o0 + 3) k = M (o1 + 3) k ∧ N (o0 + 4) k = M (o1 + 4) k
theorem cpy_in {f g : Nat → Int32} {n k : Nat} (h : k < n) : va_cpy f g 0 0 n k = f k := by
  unfold va_cpy; rw [if_pos (by omega), Nat.sub_zero, Nat.zero_add]
theorem p2_become {M : zM} {o0 o1 n : Nat} {Q : zM → Prop} (hn : M o1 0 = nI n) (h12 : n ≤ 12) (ho : o0 + 4 < o1 ∨ o1 + 4 < o0) (h : ∀ N, took M N o0 o1 n → Q N) : wX2_become M o0 o1 Q := by
  unfold wX2_become
  intro M4 e4 M5 e5
  have a4 : ∀ x, x ≠ o0 → M4 x = M x := fun x hx => by rw [e4, va_up_ne _ _ hx]
  have a5 : ∀ x, x ≠ o0 → M5 x = M x := fun x hx => by rw [e5, va_up_ne _ _ hx, a4 x hx]
  have c0 : M5 o0 0 = nI n := by rw [e5, va_up_self, pk_un (by decide), e4, va_up_self, pk_us, hn]
  have c1 : M5 o0 1 = M o1 1 := by rw [e5, va_up_self, pk_us, a4 o1 (by omega)]
  have z : (0 : Int32).toNatClampNeg = 0 := rfl
  have cond : ∀ x : Int32, x = nI n → (¬ (0 : Int32) < 0 ∧ ¬ (0 : Int32) < 0 ∧ ¬ x < 0 ∧ (0 : Int32).toNatClampNeg + x.toNatClampNeg ≤ 12 ∧ (0 : Int32).toNatClampNeg + x.toNatClampNeg ≤ 12) := fun x hx => by
    rw [hx, z, cl_of (by omega)]
    exact ⟨by decide, by decide, nI_pos (by omega), by omega, by omega⟩
  refine ⟨cond _ c0, fun M6 e6 => ?_⟩
  rw [z, c0, cl_of (by omega)] at e6
  have a6 : ∀ x, x ≠ o0 → x ≠ o0 + 1 → M6 x = M x := fun x h1 h2 => by rw [e6, va_up_ne _ _ h2, a5 x h1]
  have c6 : M6 o0 = M5 o0 := by rw [e6, va_up_ne _ _ (by omega)]
  have c60 : M6 o0 0 = nI n := by rw [c6]; exact c0
  refine ⟨cond _ c60, fun M7 e7 => ?_⟩
  rw [z, c60, cl_of (by omega)] at e7
  have a7 : ∀ x, x ≠ o0 → x ≠ o0 + 1 → x ≠ o0 + 2 → M7 x = M x := fun x h1 h2 h3 => by rw [e7, va_up_ne _ _ h3, a6 x h1 h2]
  have c7 : M7 o0 = M5 o0 := by rw [e7, va_up_ne _ _ (by omega), c6]
  have c70 : M7 o0 0 = nI n := by rw [c7]; exact c0
  refine ⟨cond _ c70, fun M8 e8 => ?_⟩
  rw [z, c70, cl_of (by omega)] at e8
  have a8 : ∀ x, x ≠ o0 → x ≠ o0 + 1 → x ≠ o0 + 2 → x ≠ o0 + 3 → M8 x = M x := fun x h1 h2 h3 h4 => by rw [e8, va_up_ne _ _ h4, a7 x h1 h2 h3]
  have c8 : M8 o0 = M5 o0 := by rw [e8, va_up_ne _ _ (by omega), c7]
  have c80 : M8 o0 0 = nI n := by rw [c8]; exact c0
  refine ⟨cond _ c80, fun M9 e9 => h M9 ?_⟩
  rw [z, c80, cl_of (by omega)] at e9
  have d9 : ∀ x, x ≠ o0 + 4 → M9 x = M8 x := fun x hx => by rw [e9, va_up_ne _ _ hx]
  refine ⟨fun x hx => by rw [d9 x (by omega), a8 x (by omega) (by omega) (by omega) (by omega)], ?_, ?_, fun k hk => ⟨?_, ?_, ?_, ?_⟩⟩
  · rw [d9 _ (by omega), c8, c0, hn]
  · rw [d9 _ (by omega), c8, c1]
  · rw [d9 _ (by omega), e8, va_up_ne _ _ (by omega), e7, va_up_ne _ _ (by omega), e6, va_up_self, cpy_in hk, a5 _ (by omega)]
  · rw [d9 _ (by omega), e8, va_up_ne _ _ (by omega), e7, va_up_self, cpy_in hk, a6 _ (by omega) (by omega)]
  · rw [d9 _ (by omega), e8, va_up_self, cpy_in hk, a7 _ (by omega) (by omega) (by omega)]
  · rw [e9, va_up_self, cpy_in hk, a8 _ (by omega) (by omega) (by omega) (by omega)]
theorem took_rn {M N : zM} {o0 o1 n : Nat} (h : took M N o0 o1 n) (hn : M o1 0 = nI n) (h12 : n ≤ 12) : N o0 0 = nI n ∧ rn N o0 = n ∧ rn M o1 = n := by
  have e : N o0 0 = nI n := h.2.1.trans hn
  exact ⟨e, by unfold rn; rw [e]; exact cl_of (by omega), by unfold rn; rw [hn]; exact cl_of (by omega)⟩
theorem took_rok {M N : zM} {o0 o1 n : Nat} (h : took M N o0 o1 n) (hn : M o1 0 = nI n) (hr : rok M o1) : rok N o0 := by
  obtain ⟨m, e, h3, h12, hw, hk⟩ := hr
  have hm : m = n ∨ ¬ n < 100000 := by
    by_cases q : n < 100000
    · left
      have : nI m = nI n := by rw [← e, hn]
      rw [pn_eq, pn_n (by omega), pn_n (by omega)] at this; omega
    · exact Or.inr q
  refine ⟨m, h.2.1.trans e, h3, h12, by rw [h.2.2.1]; exact hw, fun k hk2 => ?_⟩
  obtain ⟨a, b, c, d⟩ := h.2.2.2 k (by omega)
  rw [a, b, c, d]
  exact hk k hk2
theorem rel_w {M : zM} {o b b' : Nat} {w w' : Nat → Int32} (h : rel M o w b) (hr : rn M o ≤ 12) (hw : ∀ i, i < 50 → w' (b' + i) = w (b + i)) : rel M o w' b' := by
  obtain ⟨a, c, d⟩ := h
  have w0 := hw 0 (by omega)
  rw [Nat.add_zero, Nat.add_zero] at w0
  refine ⟨w0.trans a, (hw 1 (by omega)).trans c, fun k hk => ?_⟩
  obtain ⟨d1, d2, d3, d4⟩ := d k hk
  refine ⟨?_, ?_, ?_, ?_⟩
  · rw [show b' + 2 + 4 * k = b' + (2 + 4 * k) by omega, hw _ (by omega), show b + (2 + 4 * k) = b + 2 + 4 * k by omega]; exact d1
  · rw [show b' + 3 + 4 * k = b' + (3 + 4 * k) by omega, hw _ (by omega), show b + (3 + 4 * k) = b + 3 + 4 * k by omega]; exact d2
  · rw [show b' + 4 + 4 * k = b' + (4 + 4 * k) by omega, hw _ (by omega), show b + (4 + 4 * k) = b + 4 + 4 * k by omega]; exact d3
  · rw [show b' + 5 + 4 * k = b' + (5 + 4 * k) by omega, hw _ (by omega), show b + (5 + 4 * k) = b + 5 + 4 * k by omega]; exact d4
theorem took_rel {M N : zM} {o0 o1 n b : Nat} {w : Nat → Int32} (h : took M N o0 o1 n) (hn : M o1 0 = nI n) (h12 : n ≤ 12) (hr : rel M o1 w b) : rel N o0 w b := by
  obtain ⟨-, r1, r2⟩ := took_rn h hn h12
  refine ⟨hr.1.trans h.2.1.symm, hr.2.1.trans h.2.2.1.symm, fun k hk => ?_⟩
  rw [r1] at hk
  obtain ⟨a, b, c, d⟩ := h.2.2.2 k hk
  rw [a, b, c, d]
  exact hr.2.2 k (by omega)
theorem rok_rn {M : zM} {o : Nat} (h : rok M o) : rn M o ≤ 12 ∧ ∃ n, M o 0 = nI n ∧ 3 ≤ n ∧ n ≤ 12 ∧ rn M o = n := by
  obtain ⟨n, e, h3, h12, -⟩ := h
  have : rn M o = n := by unfold rn; rw [e]; exact cl_of (by omega)
  exact ⟨by omega, n, e, h3, h12, this⟩
/-- the class has kept the rail -/
def keepd (M N : zM) (n h x : Nat) : Prop := N 41 0 = nI (if h < 24 then h + 1 else 24) ∧ N 41 1 = nI ((x + 1) % 24) ∧ (N (43 + 5 * x) 0 = M 20 0 ∧ N (43 + 5 * x) 1 = M 20 1 ∧ ∀ k, k < n → N (43 + 5 * x + 1) k = M 21 k ∧ N (43 + 5 * x + 2) k = M 22 k ∧ N (43 + 5 * x + 3) k = M 23 k ∧ N (43 + 5 * x + 4) k = M 24 k) ∧ ∀ y, y ≠ 41 → (y < 43 + 5 * x ∨ 43 + 5 * x + 4 < y) → N y = M y
theorem p7_keep {M : zM} {n h x : Nat} {Q : zM → Prop} (hn : M 20 0 = nI n) (h12 : n ≤ 12) (hh : M 41 0 = nI h) (hx : M 41 1 = nI x) (h24 : h ≤ 24) (x24 : x < 24) (hq : ∀ N, keepd M N n h x → Q N) : wX1_keep M 41 20 Q := by
  unfold wX1_keep
  rw [hx, cl_of (by omega), show 41 + 1 + 1 + 5 * x = 43 + 5 * x by omega]
  refine ⟨vp_of x24 (by omega), p2_become hn h12 (by omega) (fun M4 ht => ?_)⟩
  obtain ⟨t1, t2, t3, t4⟩ := ht
  intro x5 e5 M6 e6 M7 e7
  have e41 : M4 41 = M 41 := t1 41 (by omega)
  rw [e41, hx, nI_1, show (24 : Int32) = nI 24 from rfl, pk_rem (by omega) (by omega) (by omega)] at e5
  refine hq M7 ⟨?_, ?_, ⟨?_, ?_, fun k hk => ?_⟩, fun y h1 h2 => ?_⟩
  · rw [e7, va_up_self, pk_us, e6, va_up_self, pk_un (by decide), e41, hh, nI_1]
    unfold zmin
    by_cases c : h < 24
    · rw [if_pos c]
      by_cases c2 : nI (h + 1) < 24
      · rw [if_pos c2]
      · rw [if_neg c2]
        rw [pn_lt, pn_n (by omega), show (24 : Int32).toInt = 24 from rfl] at c2
        rw [show h + 1 = 24 by omega]; rfl
    · rw [if_neg c, if_neg (by rw [pn_lt, pn_n (by omega), show (24 : Int32).toInt = 24 from rfl]; omega)]
      rfl
  · rw [e7, va_up_self, pk_un (by decide), e6, va_up_self, pk_us, e5]
  · rw [e7, va_up_ne _ _ (by omega), e6, va_up_ne _ _ (by omega), t2]
  · rw [e7, va_up_ne _ _ (by omega), e6, va_up_ne _ _ (by omega), t3]
  · have g : ∀ y, y ≠ 41 → M7 y = M4 y := fun y hy => by rw [e7, va_up_ne _ _ hy, e6, va_up_ne _ _ hy]
    rw [g _ (by omega), g _ (by omega), g _ (by omega), g _ (by omega)]
    exact t4 k hk
  · rw [e7, va_up_ne _ _ h1, e6, va_up_ne _ _ h1, t1 y h2]
/-- the reference has noted it -/
def noted (M N : zM) (h : Nat) : Prop := (∀ o, o ≠ 200 → o ≠ 209 → N o = M o) ∧ (∀ k, k ≠ 8 → N 200 k = M 200 k) ∧ N 200 8 = nI (if h < 24 then h + 1 else 24) ∧ ∀ j i, i < 50 → (h < 24 → (j < h → N 209 (50 * j + i) = M 209 (50 * j + i)) ∧ (j = h → N 209 (50 * j + i) = M 206 i)) ∧ (h = 24 → (j < 23 → N 209 (50 * j + i) = M 209 (50 * (j + 1) + i)) ∧ (j = 23 → N 209 (50 * j + i) = M 206 i))
theorem p8_jn {M : zM} {h : Nat} {Q : zM → Prop} (hh : M 200 8 = nI h) (h24 : h < 24) (hq : ∀ N, (∀ o, o ≠ 200 → o ≠ 209 → N o = M o) → (∀ k, k ≠ 8 → N 200 k = M 200 k) → N 200 8 = nI (h + 1) → N 209 = va_cpy (M 206) (M 209) 0 (50 * h) 50 → Q N) : jnX8_notes_49 200 Q M := by
  unfold jnX8_notes_49
  rw [hh, show (50 : Int32) * nI h = nI (50 * h) from pk_mul 50 h]
  refine p8_copies (a := 0) (by decide) (by omega) (by omega) (by omega) (by omega) ?_
  intro M13 e13
  have k : ∀ o, o ≠ 200 → M13 o = va_up M (200 + 9) (va_cpy (M (200 + 6)) (M (200 + 9)) 0 (50 * h) 50) o := fun o ho => by rw [e13, va_up_ne _ _ ho]
  refine hq M13 (fun o h1 h2 => by rw [k o h1, va_up_ne _ _ h2]) (fun j hj => ?_) ?_ ?_
  · rw [e13, va_up_self, pk_un hj, va_up_ne _ _ (by decide)]
  · rw [e13, va_up_self, pk_us, va_up_ne _ _ (by decide), hh, nI_1]
  · rw [k 209 (by decide)]; exact va_up_self _ _ _
theorem p8_notes {M : zM} {h : Nat} {Q : zM → Prop} (hh : M 200 8 = nI h) (h24 : h ≤ 24) (hq : ∀ N, noted M N h → Q N) : wX8_notes M 200 Q := by
  unfold wX8_notes
  refine ⟨fun c => ?_, fun c => ?_⟩
  · have hlt : h < 24 := by
      rw [hh, pn_eq, pn_n (by omega), show (24 : Int32).toInt = 24 from rfl] at c; omega
    refine p8_jn hh hlt (fun N a b c d => hq N ⟨a, b, by rw [if_pos hlt]; exact c, fun j i hi => ⟨fun _ => ⟨fun hj => ?_, fun hj => ?_⟩, fun q => by omega⟩⟩)
    · rw [d, pk_cpy_out (by omega)]
    · subst hj; rw [d, pk_cpy_in (by omega) (by omega), show 50 * j + i - 50 * j = i by omega, Nat.zero_add]
  · have hlt : h = 24 := by
      rw [hh, pn_eq, pn_n (by omega), show (24 : Int32).toInt = 24 from rfl] at c; omega
    subst hlt
    have key : ∀ (K : Int32 → zM → Prop), (∀ N, (∀ o, o ≠ 209 → N o = M o) → N 209 = va_cpy (M 209) (M 209) 50 0 1150 → K (nI 1150) N) → ∀ d i, i + d = 1150 → lpX8_notes_11 200 K (d + 1) (nI i) (va_up M 209 (va_cpy (M 209) (M 209) 50 0 i)) := by
      intro K hK d
      induction d with
      | zero =>
        intro i hi
        obtain rfl : i = 1150 := by omega
        unfold lpX8_notes_11
        exact ⟨fun _ => hK _ (fun o ho => va_up_ne _ _ ho) (va_up_self _ _ _), fun c => absurd (show (1150 : Int32) ≤ nI 1150 from by decide) c⟩
      | succ d ih =>
        intro i hi
        unfold lpX8_notes_11
        refine ⟨fun c => absurd c (nI_ge (a := i) (b := 1150) (by omega) (by decide)), fun _ => ?_⟩
        rw [show nI i + (50 : Int32) = nI (i + 50) from nI_add i 50]
        refine ⟨vp_of (by omega) (by omega), fun x19 e19 => ⟨vp_of (by omega) (by omega), fun M20 e20 x21 e21 => ?_⟩⟩
        have f20 : M20 = va_up M 209 (va_cpy (M 209) (M 209) 50 0 (i + 1)) := by
          rw [e20, e19, cl_of (by omega), cl_of (by omega)]
          show va_up (va_up M 209 _) 209 (upd (va_up M 209 _ 209) i (va_up M 209 _ 209 (i + 50))) = _
          rw [va_up_self, up_up, pk_cpy_out (by omega), show i + 50 = 50 + i by omega]
          have := cpy_s (M 209) (M 209) 50 0 i
          rw [Nat.zero_add] at this
          rw [this]
        rw [e21, nI_1, f20]
        exact ih (i + 1) (by omega)
    refine ⟨1151, ?_⟩
    have k0 := key (fun x16 M17 => ∀ M18 : zM, M18 = va_up M17 200 (upd (M17 200) 8 (M17 200 8 - 1)) → jnX8_notes_49 200 Q M18) ?_ 1150 0 (by omega)
    · rw [cpy_0, up_id] at k0
      exact k0
    · intro N a b M18 e18
      have b8 : ∀ o, o ≠ 200 → M18 o = N o := fun o ho => by rw [e18, va_up_ne _ _ ho]
      refine p8_jn (h := 23) ?_ (by omega) (fun P p1 p2 p3 p4 => hq P ⟨fun o h1 h2 => by rw [p1 o h1 h2, b8 o h1, a o h2], fun k hk => ?_, p3, fun j i hi => ⟨fun q => by omega, fun _ => ⟨fun hj => ?_, fun hj => ?_⟩⟩⟩)
      · rw [e18, va_up_self, pk_us, a 200 (by decide), hh]; rfl
      · rw [p2 k hk, e18, va_up_self, pk_un hk, a 200 (by decide)]
      · rw [p4, pk_cpy_out (by omega), b8 209 (by decide), b, pk_cpy_in (by omega) (by omega), show 50 + (50 * j + i - 0) = 50 * (j + 1) + i by omega]
      · subst hj
        rw [p4, pk_cpy_in (by omega) (by omega), b8 206 (by decide), a 206 (by decide), show 0 + (50 * 23 + i - 50 * 23) = i by omega]
