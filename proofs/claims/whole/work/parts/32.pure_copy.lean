/-! PURE: copy(), tell(), as() -/
theorem hold2 {sz i n : Int32} (h1 : 0 ≤ sz.toInt) (h2 : sz.toInt ≤ 40) (h : ¬ zhold sz i n = 0) : ∃ p q : Nat, i = nI p ∧ n = nI q ∧ ((p : Int) + q ≤ sz.toInt) := by
  unfold zhold at h
  by_cases c1 : i < 0
  · rw [if_pos c1] at h; exact absurd rfl h
  rw [if_neg c1] at h
  by_cases c2 : n < 0
  · rw [if_pos c2] at h; exact absurd rfl h
  rw [if_neg c2] at h
  by_cases c3 : sz < i
  · rw [if_pos c3] at h; exact absurd rfl h
  rw [if_neg c3] at h
  by_cases c4 : sz - i < n
  · rw [if_pos c4] at h; exact absurd rfl h
  rw [pn_lt, t0] at c1 c2
  rw [pn_lt] at c3 c4
  rw [pn_sub (by omega) (by omega)] at c4
  exact ⟨i.toInt.toNat, n.toInt.toNat, pn_of (by omega), pn_of (by omega), by omega⟩
section PC
variable {S : zM → Prop}
theorem p8_copy1 {M : zM} {r p c : Nat} {K : Int32 → zM → Prop} (hr : r < 8) (hp : p + c ≤ 40) (h : ∀ N : zM, (∀ x, x ≠ 204 → N x = M x) → (∀ k, k < c → N 204 k = M 203 (40 * r + p + k)) → K (nI c) N) : ∃ fu, lpX8_copy_92 200 (nI r) (nI p) (nI c) K fu 0 M := by
  have key : ∀ d i, i + d = c → ∀ N : zM, (∀ x, x ≠ 204 → N x = M x) → (∀ k, k < i → N 204 k = M 203 (40 * r + p + k)) → lpX8_copy_92 200 (nI r) (nI p) (nI c) K (d + 1) (nI i) N := by
    intro d
    induction d with
    | zero =>
      intro i hi N hN hk
      obtain rfl : i = c := by omega
      unfold lpX8_copy_92
      exact ⟨fun _ => h N hN hk, fun q => absurd (nI_le (Nat.le_refl _) (by omega)) q⟩
    | succ d ih =>
      intro i hi N hN hk
      unfold lpX8_copy_92
      refine ⟨fun q => absurd q (nI_ge (by omega) (by omega)), fun _ => ?_⟩
      rw [nI_40, nI_add, cl_of (by omega), cl_of (by omega)]
      refine ⟨vp_of (by omega) (by omega), fun x28 e28 => ⟨vp_of (by omega) (by omega), fun M29 e29 x30 e30 => ?_⟩⟩
      rw [e30, nI_1]
      have e29 : M29 = va_up N 204 (upd (N 204) i x28) := e29
      refine ih (i + 1) (by omega) M29 (fun x hx => by rw [e29, va_up_ne _ _ hx, hN x hx]) (fun k hk2 => ?_)
      rw [e29, va_up_self]
      by_cases q : k = i
      · subst q
        rw [pk_us, e28]
        show N 203 _ = _
        rw [hN 203 (by decide)]
      · rw [pk_un q]; exact hk k (by omega)
  exact ⟨c + 1, key c 0 (by omega) M (fun _ _ => rfl) (fun k hk => by omega)⟩
theorem p8_copy2 {M : zM} {r q c : Nat} {f : Nat → Int32} {a : Nat} {Q : Int32 → zM → Prop} (hr : r < 8) (hq : q + c ≤ 40) (hs : ∀ k, k < c → M 204 k = f (a + k)) (h : ∀ N : zM, (∀ x, x ≠ 200 → x ≠ 203 → N x = M x) → N 203 = va_cpy f (M 203) a (40 * r + q) c → N 200 = upd (M 200) 0 0 → Q (nI c) N) : ∃ fu, lpX8_copy_129 200 (nI r) (nI q) (nI c) Q fu 0 M := by
  have key : ∀ d i, i + d = c → ∀ N : zM, (∀ x, x ≠ 203 → N x = M x) → N 203 = va_cpy f (M 203) a (40 * r + q) i → lpX8_copy_129 200 (nI r) (nI q) (nI c) Q (d + 1) (nI i) N := by
    intro d
    induction d with
    | zero =>
      intro i hi N hN hk
      obtain rfl : i = c := by omega
      unfold lpX8_copy_129
      refine ⟨fun _ M4 e4 => h M4 (fun x h1 h2 => by rw [e4, va_up_ne _ _ h1, hN x h2]) (by rw [e4, va_up_ne _ _ (by decide)]; exact hk) (by rw [e4, va_up_self, hN 200 (by decide)]), fun q => absurd (nI_le (Nat.le_refl _) (by omega)) q⟩
    | succ d ih =>
      intro i hi N hN hk
      unfold lpX8_copy_129
      refine ⟨fun q => absurd q (nI_ge (by omega) (by omega)), fun _ => ?_⟩
      rw [nI_40, nI_add, cl_of (by omega), cl_of (by omega)]
      refine ⟨vp_of (by omega) (by omega), vp_of (by omega) (by omega), fun M26 e26 x27 e27 => ?_⟩
      rw [e27, nI_1]
      have e26 : M26 = va_up N 203 (upd (N 203) (40 * r + q + i) (N 204 i)) := e26
      refine ih (i + 1) (by omega) M26 (fun x hx => by rw [e26, va_up_ne _ _ hx, hN x hx]) ?_
      rw [e26, va_up_self, hN 204 (by decide), hs i (by omega), hk, cpy_s]
  exact ⟨c + 1, key c 0 (by omega) M (fun _ _ => rfl) (by rw [cpy_0])⟩
theorem s_copy (hS : sOwn S) : st_copy (fun M _ => cAll S M) := by
  intro M J a i b j n hI
  unfold wX7_copy
  refine p7_isRow ⟨fun h => ?_, fun h => p7_isRow ⟨fun h2 => ?_, fun h2 => ?_⟩⟩
  · unfold wX8_copy
    exact p8_isRow ⟨fun _ => ⟨rfl, hI⟩, fun q => absurd h q⟩
  · obtain ⟨r, hr, rfl⟩ := zin_lit (n := 7) rfl h
    obtain ⟨s, hs, rfl⟩ := zin_lit (n := 7) rfl h2
    refine ⟨vp_of (by omega) (by omega), vp_of (by omega) (by omega), p3_isMissing ?_⟩
    rw [cl_of (by omega), cl_of (by omega), show 0 + 1 + 1 + 2 * r = 2 + 2 * r by omega, show 0 + 1 + 1 + 2 * s = 2 + 2 * s by omega]
    rcases row_cases hI.1 (show r < 8 by omega) with ⟨q1, q2⟩ | ⟨q1, q2, q3, q4, q5, q6, q7⟩
    · rw [if_pos q2]
      refine ⟨fun _ => both_found (P := fun r1 M1 Q => wX8_copy M1 200 (nI r) i (nI s) j n Q) hS hI ?_, fun c => absurd c (by decide)⟩
      intro M1 e Q hQ
      unfold wX8_copy
      refine p8_isRow ⟨fun c => absurd c h, fun _ => p8_isRow ⟨fun _ => p8_isMissing (by omega) ?_, fun c => absurd c h2⟩⟩
      rw [e 201 (by decide), if_pos q1]
      exact ⟨fun _ => hQ, fun c => absurd c (by decide)⟩
    · rw [if_neg q2]
      refine ⟨fun c => absurd rfl c, fun _ => p3_isMissing ?_⟩
      rcases row_cases hI.1 (show s < 8 by omega) with ⟨w1, w2⟩ | ⟨w1, w2, w3, w4, w5, w6, w7⟩
      · rw [if_pos w2]
        refine ⟨fun c => absurd c (by decide), fun _ => both_found (P := fun r1 M1 Q => wX8_copy M1 200 (nI r) i (nI s) j n Q) hS hI ?_⟩
        intro M1 e Q hQ
        unfold wX8_copy
        refine p8_isRow ⟨fun c => absurd c h, fun _ => p8_isRow ⟨fun _ => p8_isMissing (by omega) ?_, fun c => absurd c h2⟩⟩
        rw [e 201 (by decide), if_neg q1]
        refine ⟨fun c => absurd rfl c, fun _ => p8_isMissing (by omega) ?_⟩
        rw [e 201 (by decide), if_pos w1]
        exact ⟨fun c => absurd c (by decide), fun _ => hQ⟩
      · rw [if_neg w2]
        refine ⟨fun _ => ?_, fun c => absurd rfl c⟩
        have ref : ∀ M1 : zM, (∀ o, o ≠ 0 → o ≠ 3 + 2 * s → M1 o = M o) → ∀ Q : Int32 → zM → Prop, (¬ M (2 + 2 * r) 0 = M (2 + 2 * s) 0 → wX8_found M1 200 5 Q) → (M (2 + 2 * r) 0 = M (2 + 2 * s) 0 → (zhold (M (2 + 2 * r) 1) i n = 0 → wX8_found M1 200 2 Q) ∧ (¬ zhold (M (2 + 2 * r) 1) i n = 0 → (zhold (M (2 + 2 * s) 1) j n = 0 → wX8_found M1 200 2 Q) ∧ (¬ zhold (M (2 + 2 * s) 1) j n = 0 → ∃ fu92 : Nat, lpX8_copy_92 200 (nI r) i n (fun x20 M21 => ∃ fu129 : Nat, lpX8_copy_129 200 (nI s) j n Q fu129 (0 : Int32) M21) fu92 (0 : Int32) M1))) → wX8_copy M1 200 (nI r) i (nI s) j n Q := by
          intro M1 e Q g1 g2
          unfold wX8_copy
          refine p8_isRow ⟨fun c => absurd c h, fun _ => p8_isRow ⟨fun _ => p8_isMissing (by omega) ?_, fun c => absurd c h2⟩⟩
          rw [e 201 (by decide) (by omega), if_neg q1]
          refine ⟨fun c => absurd rfl c, fun _ => p8_isMissing (by omega) ?_⟩
          rw [e 201 (by decide) (by omega), if_neg w1]
          refine ⟨fun _ => ⟨vp_of (by omega) (by omega), vp_of (by omega) (by omega), ?_⟩, fun c => absurd rfl c⟩
          rw [cl_of (by omega), cl_of (by omega), q3, w3]
          refine ⟨fun c => p8_isPart (by omega) ?_, fun c => g1 c⟩
          rw [e 202 (by decide) (by omega), q5]
          refine ⟨fun d => (g2 c).1 d, fun d => p8_isPart (by omega) ?_⟩
          rw [e 202 (by decide) (by omega), w5]
          exact ⟨fun f => ((g2 c).2 d).2 f, fun f => ((g2 c).2 d).1 f⟩
        have e0 : ∀ M1 : zM, (∀ o, o ≠ 0 → M1 o = M o) → ∀ o, o ≠ 0 → o ≠ 3 + 2 * s → M1 o = M o := fun M1 e o h1 _ => e o h1
        refine ⟨fun c => p3_holds ⟨fun d => ?_, fun d => p3_holds ⟨fun f => ?_, fun f => ?_⟩⟩, fun c => ?_⟩
        · exact both_found (P := fun r1 M1 Q => wX8_copy M1 200 (nI r) i (nI s) j n Q) hS hI (fun M1 e Q hQ => ref M1 (e0 M1 e) Q (fun q => absurd c q) (fun _ => ⟨fun _ => hQ, fun q => absurd d q⟩))
        · rw [q5] at q6; rw [w5] at w6
          obtain ⟨p, t, rfl, rfl, hpt⟩ := hold2 q6.1 q6.2 d
          obtain ⟨u, t', rfl, ht', hut⟩ := hold2 w6.1 w6.2 f
          have ht40 : t ≤ 40 := by omega
          have ht'40 : t' ≤ 40 := by omega
          obtain rfl : t = t' := (nI_eq (by omega) (by omega)).1 ht'
          rw [cl_of (by omega), cl_of (by omega), cl_of (by omega)]
          refine ⟨⟨nI_pos (by omega), nI_pos (by omega), nI_pos (by omega), by omega, by omega⟩, fun A eA M1 e1 => ?_⟩
          have eA : A = va_up M (3 + 2 * s) (va_cpy (M (3 + 2 * r)) (M (3 + 2 * s)) p u t) := by
            rw [eA, show 2 + 2 * s + 1 = 3 + 2 * s by omega, show 2 + 2 * r + 1 = 3 + 2 * r by omega]
          have f1 : ∀ o, o ≠ 0 → o ≠ 3 + 2 * s → M1 o = M o := fun o h1 h2 => by rw [e1, va_up_ne _ _ h1, eA, va_up_ne _ _ h2]
          refine ref M1 f1 _ (fun q => absurd c q) (fun _ => ⟨fun q => absurd q d, fun _ => ⟨fun q => absurd q f, fun _ => p8_copy1 (by omega) (by omega) (fun B fB sB => p8_copy2 (f := M 203) (a := 40 * r + p) (by omega) (by omega) (fun k hk => ?_) (fun N fN n3 n0 => ?_))⟩⟩)
          · rw [sB k hk, f1 203 (by decide) (by omega)]
          · have g : ∀ o, o ≠ 0 → o ≠ 200 → o ≠ 203 → o ≠ 204 → o ≠ 3 + 2 * s → N o = M o := fun o h1 h2 h3 h4 h5 => by rw [fN o h2 h3, fB o h4, f1 o h1 h5]
            have n203 : N 203 = va_cpy (M 203) (M 203) (40 * r + p) (40 * s + u) t := by rw [n3, fB 203 (by decide), f1 203 (by decide) (by omega)]
            have ni : N (3 + 2 * s) = va_cpy (M (3 + 2 * r)) (M (3 + 2 * s)) p u t := by rw [fN _ (by omega) (by omega), fB _ (by omega), e1, va_up_ne _ _ (by omega), eA, va_up_self]
            have n200 : N 200 = upd (M 200) 0 0 := by rw [n0, fB 200 (by decide), f1 200 (by decide) (by omega)]
            refine ⟨rfl, all_row hS hI (show s < 8 by omega) (fun o h1 h2 _ h4 _ _ h7 h8 => g o h1 h2 h7 h8 h4) (fun k hk => by rw [n200, pk_un hk]) ?_ ?_ ?_⟩
            · rw [n200, pk_us, fN 0 (by decide) (by decide), fB 0 (by decide), e1, va_up_self, pk_us]
            · right
              rw [g 201 (by decide) (by decide) (by decide) (by decide) (by omega), g 202 (by decide) (by decide) (by decide) (by decide) (by omega), g (2 + 2 * s) (by omega) (by omega) (by omega) (by omega) (by omega), n203, ni]
              refine ⟨w3, w4, w5, by rw [w5]; exact w6, fun k hk => ?_⟩
              by_cases z : u ≤ k ∧ k < u + t
              · rw [pk_cpy_in (by omega) (by omega), pk_cpy_in z.1 z.2, ← q7 (p + (k - u)) (by omega)]
                congr 1; omega
              · rw [pk_cpy_out (by omega), pk_cpy_out (by omega)]; exact w7 k hk
            · intro q hq hqs
              rw [g 201 (by decide) (by decide) (by decide) (by decide) (by omega), g 202 (by decide) (by decide) (by decide) (by decide) (by omega), n203]
              exact ⟨rfl, rfl, fun k hk => pk_cpy_out (by omega)⟩
        · exact both_found (P := fun r1 M1 Q => wX8_copy M1 200 (nI r) i (nI s) j n Q) hS hI (fun M1 e Q hQ => ref M1 (e0 M1 e) Q (fun q => absurd c q) (fun _ => ⟨fun q => absurd q d, fun _ => ⟨fun _ => hQ, fun q => absurd f q⟩⟩))
        · exact both_found (P := fun r1 M1 Q => wX8_copy M1 200 (nI r) i (nI s) j n Q) hS hI (fun M1 e Q hQ => ref M1 (e0 M1 e) Q (fun _ => hQ) (fun q => absurd q c))
  · unfold wX8_copy
    exact p8_isRow ⟨fun _ => ⟨rfl, hI⟩, fun _ => p8_isRow ⟨fun q => absurd h2 q, fun _ => ⟨rfl, hI⟩⟩⟩
theorem hold0 {sz i : Int32} (h1 : 0 ≤ sz.toInt) (h2 : sz.toInt ≤ 40) : (zhold sz i 0 = 0 ↔ zin i 0 sz = 0) := by
  rw [zin_0, pn_lt, pn_lt, t0]
  unfold zhold
  by_cases c1 : i < 0
  · rw [if_pos c1]; rw [pn_lt, t0] at c1; exact ⟨fun _ => Or.inl c1, fun _ => rfl⟩
  rw [if_neg c1, if_neg (by decide)]
  rw [pn_lt, t0] at c1
  by_cases c3 : sz < i
  · rw [if_pos c3]; rw [pn_lt] at c3; exact ⟨fun _ => Or.inr c3, fun _ => rfl⟩
  rw [if_neg c3]
  rw [pn_lt] at c3
  rw [if_neg (by rw [pn_lt, pn_sub (by omega) (by omega), t0]; omega)]
  exact ⟨fun q => absurd q (by decide), fun q => by omega⟩
theorem p7_tell {M : zM} {n a r p t : Nat} {x11 : Int32} {Q : Int32 → zM → Prop} (hn : M 20 0 = nI n) (h12 : n ≤ 12) (hr : r < 8) (ht : zmin x11 (M (0 + 20) 0 - nI a) = nI t) (ht1 : a + t ≤ n) (ht2 : p + t ≤ 40)
    (h : ∀ N : zM, (∀ x, x ≠ 0 → x ≠ 3 + 2 * r → N x = M x) → N (3 + 2 * r) = va_cpy (fun k => zlow (M (2 + 2 * r) 0) (fNow n (M 22) (M 24) k)) (M (3 + 2 * r)) a p t → N 0 = upd (M 0) 0 0 → Q (nI t) N) : ∃ fu, lpX7_tell_80 M 0 (nI a) (nI r) (nI p) x11 Q fu 0 M := by
  have key : ∀ d i, i + d = t → ∀ N : zM, (∀ x, x ≠ 3 + 2 * r → N x = M x) → N (3 + 2 * r) = va_cpy (fun k => zlow (M (2 + 2 * r) 0) (fNow n (M 22) (M 24) k)) (M (3 + 2 * r)) a p i → lpX7_tell_80 M 0 (nI a) (nI r) (nI p) x11 Q (d + 1) (nI i) N := by
    intro d
    induction d with
    | zero =>
      intro i hi N hN hk
      obtain rfl : i = t := by omega
      unfold lpX7_tell_80
      rw [ht]
      exact ⟨fun _ M4 e4 => h M4 (fun x h1 h2 => by rw [e4, va_up_ne _ _ h1, hN x h2]) (by rw [e4, va_up_ne _ _ (by omega)]; exact hk) (by rw [e4, va_up_self, hN 0 (by omega)]), fun q => absurd (nI_le (Nat.le_refl _) (by omega)) q⟩
    | succ d ih =>
      intro i hi N hN hk
      unfold lpX7_tell_80
      rw [ht, nI_add, nI_add, cl_of (by omega), show 0 + 1 + 1 + 2 * r = 2 + 2 * r by omega]
      refine ⟨fun q => absurd q (nI_ge (by omega) (by omega)), fun _ => p2_now (o := 20) (by rw [hN 20 (by omega)]; exact hn) h12 (by omega) (p3_put (by omega) ?_)⟩
      intro x19 e19
      rw [e19, nI_1]
      refine ih (i + 1) (by omega) _ (fun x hx => by rw [va_up_ne _ _ (by omega), hN x hx]) ?_
      rw [show 2 + 2 * r + 1 = 3 + 2 * r by omega, va_up_self, hk, hN (2 + 2 * r) (by omega), hN (20 + 2) (by omega), hN (20 + 4) (by omega)]
      exact cpy_s (fun k => zlow (M (2 + 2 * r) 0) (fNow n (M 22) (M 24) k)) (M (3 + 2 * r)) a p i
  exact ⟨t + 1, key t 0 (by omega) M (fun _ _ => rfl) (by rw [cpy_0])⟩
theorem p8_tell {M : zM} {n a r p t : Nat} {f : Nat → Int32} {Q : Int32 → zM → Prop} (hn : M 206 0 = nI n) (h12 : n ≤ 12) (hr : r < 8) (ht1 : a + t ≤ n) (ht2 : (p : Int) + t ≤ (M 202 r).toInt) (h40 : (M 202 r).toInt ≤ 40) (hend : a + t = n ∨ (p : Int) + t = (M 202 r).toInt)
    (hf : ∀ k, k < n → zlow (M 201 r) (fNow n (rV (M 206)) (rS (M 206)) k) = f k)
    (h : ∀ N : zM, (∀ x, x ≠ 200 → x ≠ 203 → N x = M x) → N 203 = va_cpy f (M 203) a (40 * r + p) t → N 200 = upd (M 200) 0 0 → Q (nI t) N) : ∃ fu, lpX8_tell_58 200 (nI r) (nI p) Q fu 0 (nI a) M := by
  have key : ∀ d i, i + d = t → ∀ N : zM, (∀ x, x ≠ 203 → N x = M x) → N 203 = va_cpy f (M 203) a (40 * r + p) i → lpX8_tell_58 200 (nI r) (nI p) Q (d + 1) (nI i) (nI (a + i)) N := by
    intro d
    induction d with
    | zero =>
      intro i hi N hN hk
      obtain rfl : i = t := by omega
      unfold lpX8_tell_58
      have fin : wX8_well N 200 (nI i) Q := fun M4 e4 => h M4 (fun x h1 h2 => by rw [e4, va_up_ne _ _ h1, hN x h2]) (by rw [e4, va_up_ne _ _ (by decide)]; exact hk) (by rw [e4, va_up_self, hN 200 (by decide)])
      refine ⟨fun _ => fin, fun q => ⟨vp_of hr (by omega), fun _ => fin, fun q2 => ?_⟩⟩
      exfalso
      rw [show N (200 + 6) (0 : Int32).toNatClampNeg = nI n by rw [hN (200 + 6) (by decide)]; exact hn] at q
      rw [cl_of (by omega), hN (200 + 2) (by decide), nI_add, pn_le, pn_n (by omega)] at q2
      have q2 : ¬ (M 202 r).toInt ≤ ((p + i : Nat) : Int) := q2
      rcases hend with w | w
      · exact q (nI_le (by omega) (by omega))
      · exact q2 (by omega)
    | succ d ih =>
      intro i hi N hN hk
      unfold lpX8_tell_58
      have hn' : N 206 0 = nI n := by rw [hN 206 (by decide)]; exact hn
      rw [show N (200 + 6) (0 : Int32).toNatClampNeg = nI n from hn']
      refine ⟨fun q => absurd q (nI_ge (by omega) (by omega)), fun _ => ⟨vp_of hr (by omega), fun q => ?_, fun _ => ⟨vp_of hr (by omega), p8_nowOf (o := 206) (by omega) (by omega) hn' h12 (by omega) (p8_lowest ?_)⟩⟩⟩
      · exfalso
        rw [cl_of (by omega), hN (200 + 2) (by decide), nI_add, pn_le, pn_n (by omega)] at q
        have q : (M 202 r).toInt ≤ ((p + i : Nat) : Int) := q
        omega
      · rw [nI_40, nI_add, cl_of (by omega), cl_of (by omega)]
        refine ⟨vp_of (by omega) (by omega), fun M19 e19 x20 e20 x21 e21 => ?_⟩
        rw [e20, e21, nI_1, nI_1]
        have e19 : M19 = va_up N 203 (upd (N 203) (40 * r + p + i) (zlow (N 201 r) (fNow n (rV (N 206)) (rS (N 206)) (a + i)))) := e19
        rw [hN 201 (by decide), hN 206 (by decide), hf (a + i) (by omega), hk, cpy_s] at e19
        refine ih (i + 1) (by omega) M19 (fun x hx => by rw [e19, va_up_ne _ _ hx, hN x hx]) (by rw [e19, va_up_self])
  exact ⟨t + 1, key t 0 (by omega) M (fun _ _ => rfl) (by rw [cpy_0])⟩
theorem s_tell (hS : sOwn S) : st_tell (fun M _ => cAll S M) := by
  intro M J a b i hI
  obtain ⟨n, e7, e8, h12, hrn, hn0⟩ := rail_n hI.2.2.2.1
  obtain ⟨rk, rv, rb, rs⟩ := rel_fun hI.2.2.2.1.1 hrn
  unfold wX7_tell
  refine p7_isPeg ?_
  rw [e7]
  refine ⟨fun h => ?_, fun h => p7_isRow ⟨fun h2 => ?_, fun h2 => ?_⟩⟩
  · unfold wX8_tell
    refine p8_isPeg ?_
    rw [e8]
    exact ⟨fun _ => ⟨rfl, hI⟩, fun q => absurd h q⟩
  · obtain ⟨k, hk, rfl⟩ := zin_nat (by omega) h
    obtain ⟨r, hr, rfl⟩ := zin_lit (n := 7) rfl h2
    have ref : ∀ M1 : zM, (∀ o, o ≠ 0 → o ≠ 3 + 2 * r → M1 o = M o) → ∀ Q : Int32 → zM → Prop, (M 201 r = -1000000 → wX8_found M1 200 1 Q) → (¬ M 201 r = -1000000 → (zin i 0 (M 202 r) = 0 → wX8_found M1 200 2 Q) ∧ (¬ zin i 0 (M 202 r) = 0 → ∃ fu58 : Nat, lpX8_tell_58 200 (nI r) i Q fu58 (0 : Int32) (nI k) M1)) → wX8_tell M1 200 (nI k) (nI r) i Q := by
      intro M1 e Q g1 g2
      unfold wX8_tell
      refine p8_isPeg ?_
      rw [e 206 (by decide) (by omega), e8]
      refine ⟨fun q => absurd q h, fun _ => p8_isRow ⟨fun _ => p8_isMissing (by omega) ?_, fun q => absurd q h2⟩⟩
      rw [e 201 (by decide) (by omega)]
      by_cases c : M 201 r = -1000000
      · rw [if_pos c]; exact ⟨fun q => absurd q (by decide), fun _ => g1 c⟩
      · rw [if_neg c]
        refine ⟨fun _ => ⟨vp_of (by omega) (by omega), p8_in ?_⟩, fun q => absurd rfl q⟩
        rw [cl_of (by omega), e (200 + 2) (by decide) (by omega)]
        exact ⟨fun d => (g2 c).2 d, fun d => (g2 c).1 d⟩
    have e0 : ∀ M1 : zM, (∀ o, o ≠ 0 → M1 o = M o) → ∀ o, o ≠ 0 → o ≠ 3 + 2 * r → M1 o = M o := fun M1 e o h1 _ => e o h1
    refine ⟨vp_of (by omega) (by omega), p3_isMissing ?_⟩
    rw [cl_of (by omega), show 0 + 1 + 1 + 2 * r = 2 + 2 * r by omega]
    rcases row_cases hI.1 (show r < 8 by omega) with ⟨q1, q2⟩ | ⟨q1, q2, q3, q4, q5, q6, q7⟩
    · rw [if_pos q2]
      exact ⟨fun c => absurd c (by decide), fun _ => both_found (P := fun r1 M1 Q => wX8_tell M1 200 (nI k) (nI r) i Q) hS hI (fun M1 e Q hQ => ref M1 (e0 M1 e) Q (fun _ => hQ) (fun q => absurd q1 q))⟩
    · rw [if_neg q2]
      refine ⟨fun _ => p3_holds ?_, fun c => absurd rfl c⟩
      have hz := hold0 (i := i) q6.1 q6.2
      rw [← q5]
      refine ⟨fun c => ?_, fun c => both_found (P := fun r1 M1 Q => wX8_tell M1 200 (nI k) (nI r) i Q) hS hI (fun M1 e Q hQ => ref M1 (e0 M1 e) Q (fun q => absurd q q1) (fun _ => ⟨fun _ => hQ, fun q => absurd (hz.1 c) q⟩))⟩
      have c' : ¬ zin i 0 (M 202 r) = 0 := fun q => c (hz.2 q)
      obtain ⟨z1, z2⟩ := zin_in c'
      rw [t0] at z1
      obtain ⟨p, hp⟩ : ∃ p : Nat, p = i.toInt.toNat := ⟨_, rfl⟩
      have ei : i = nI p := by rw [hp]; exact pn_of z1
      obtain ⟨sz, hsz⟩ : ∃ sz : Nat, sz = (M 202 r).toInt.toNat := ⟨_, rfl⟩
      have esz : M 202 r = nI sz := by rw [hsz]; exact pn_of q6.1
      intro x11 e11
      subst ei
      rw [esz, pk_sub (by omega)] at e11
      obtain ⟨t, ht⟩ : ∃ t, t = min (sz - p) (n - k) := ⟨_, rfl⟩
      have hmin : zmin x11 (M (0 + 20) 0 - nI k) = nI t := by
        rw [e11, show M (0 + 20) 0 = nI n from e7, pk_sub (by omega)]
        unfold zmin
        by_cases q : n - k < sz - p
        · rw [if_pos (nI_lt q (by omega)), ht, Nat.min_eq_right (by omega)]
        · rw [if_neg (nI_nlt (by omega) (by omega)), ht, Nat.min_eq_left (by omega)]
      have ps : p ≤ sz := by omega
      refine p7_tell e7 h12 (by omega) hmin (by omega) (by omega) (fun M1 f1 i1 s1 => ?_)
      refine ref M1 f1 _ (fun q => absurd q q1) (fun _ => ⟨fun q => absurd q c', fun _ => ?_⟩)
      have m2 : M1 202 = M 202 := f1 202 (by decide) (by omega)
      have m6 : M1 206 = M 206 := f1 206 (by decide) (by omega)
      refine p8_tell (n := n) (t := t) (f := fun k => zlow (M (2 + 2 * r) 0) (fNow n (M 22) (M 24) k)) (by rw [m6]; exact e8) h12 (by omega) (by omega) (by rw [m2]; omega) (by rw [m2]; omega) (by rw [m2]; omega) (fun j hj => ?_) (fun N fN n3 n0 => ?_)
      · rw [f1 201 (by decide) (by omega), q3, m6, fNow_of hj rv rs]
      · have g : ∀ o, o ≠ 0 → o ≠ 200 → o ≠ 203 → o ≠ 3 + 2 * r → N o = M o := fun o h1 h2 h3 h5 => by rw [fN o h2 h3, f1 o h1 h5]
        have n203 : N 203 = va_cpy (fun k => zlow (M (2 + 2 * r) 0) (fNow n (M 22) (M 24) k)) (M 203) k (40 * r + p) t := by rw [n3, f1 203 (by decide) (by omega)]
        have ni : N (3 + 2 * r) = va_cpy (fun k => zlow (M (2 + 2 * r) 0) (fNow n (M 22) (M 24) k)) (M (3 + 2 * r)) k p t := by rw [fN _ (by omega) (by omega), i1]
        have n200 : N 200 = upd (M 200) 0 0 := by rw [n0, f1 200 (by decide) (by omega)]
        refine ⟨rfl, all_row hS hI (show r < 8 by omega) (fun o h1 h2 _ h4 _ _ h7 h8 => g o h1 h2 h7 h4) (fun k hk => by rw [n200, pk_un hk]) ?_ ?_ ?_⟩
        · rw [n200, pk_us, fN 0 (by decide) (by decide), s1, pk_us]
        · right
          rw [g 201 (by decide) (by decide) (by decide) (by omega), g 202 (by decide) (by decide) (by decide) (by omega), g (2 + 2 * r) (by omega) (by omega) (by omega) (by omega), n203, ni]
          refine ⟨q3, q4, q5, q6, fun j hj => ?_⟩
          by_cases z : p ≤ j ∧ j < p + t
          · rw [pk_cpy_in (by omega) (by omega), pk_cpy_in z.1 z.2]
            congr 2; omega
          · rw [pk_cpy_out (by omega), pk_cpy_out (by omega)]; exact q7 j hj
        · intro q hq hqs
          rw [g 201 (by decide) (by decide) (by decide) (by omega), g 202 (by decide) (by decide) (by decide) (by omega), n203]
          exact ⟨rfl, rfl, fun j hj => pk_cpy_out (by omega)⟩
  · unfold wX8_tell
    refine p8_isPeg ?_
    rw [e8]
    exact ⟨fun _ => ⟨rfl, hI⟩, fun _ => p8_isRow ⟨fun q => absurd h2 q, fun _ => ⟨rfl, hI⟩⟩⟩
theorem as_step {M : zM} {k t u fu : Nat} {x1 : Int32} {Q : Int32 → zM → Prop} (hk : k < 6) (ht : t < 6) (hu : u < 6) (h1 : k = t → wX7_fine M 0 x1 Q) (h2 : ¬ k = t → lpX7_as_33 M 0 x1 (nI t) Q fu (zalso k) (nI (u + 1))) : lpX7_as_33 M 0 x1 (nI t) Q (fu + 1) (nI k) (nI u) := by
  unfold lpX7_as_33
  refine ⟨fun c => absurd c (nI_ge (a := u) (b := 6) (by omega) (by omega)), fun _ => ⟨fun c => absurd c (nI_pos (by omega)), fun _ => ⟨fun c => ⟨vp_of hk (by omega), fun x13 e13 => ?_⟩, fun c => h1 ((nI_eq (by omega) (by omega)).1 c)⟩⟩⟩
  rw [e13, nI_1, cl_of (by omega)]
  exact h2 (fun q => c (by rw [q]))
theorem as_last {M : zM} {t u fu : Nat} {x1 : Int32} {Q : Int32 → zM → Prop} (h : wX7_found M 0 3 Q) : lpX7_as_33 M 0 x1 (nI t) Q (fu + 1) (-1) (nI u) := by
  unfold lpX7_as_33
  exact ⟨fun _ => h, fun _ => ⟨fun _ => h, fun c => absurd (by decide) c⟩⟩
def zis (k t : Nat) : Prop := t = 0 ∨ t = k ∨ (t = 1 ∧ k < 4) ∨ (t = 4 ∧ k = 5)
theorem p7_as {M : zM} {k t : Nat} {x1 : Int32} {Q : Int32 → zM → Prop} (hk1 : 1 ≤ k) (hk : k < 6) (ht : t < 6) (h1 : zis k t → wX7_fine M 0 x1 Q) (h2 : ¬ zis k t → wX7_found M 0 3 Q) : lpX7_as_33 M 0 x1 (nI t) Q 5 (nI k) 0 := by
  unfold zis at h1 h2
  have l0 : ∀ fu u, u < 6 → (t = 0 → wX7_fine M 0 x1 Q) → (¬ t = 0 → wX7_found M 0 3 Q) → lpX7_as_33 M 0 x1 (nI t) Q (fu + 1 + 1) (nI 0) (nI u) := fun fu u hu a b => as_step (by omega) ht hu (fun q => a q.symm) (fun q => as_last (b (fun w => q w.symm)))
  have l1 : ∀ fu u, u < 5 → (t = 0 ∨ t = 1 → wX7_fine M 0 x1 Q) → (¬ (t = 0 ∨ t = 1) → wX7_found M 0 3 Q) → lpX7_as_33 M 0 x1 (nI t) Q (fu + 1 + 1 + 1) (nI 1) (nI u) := fun fu u hu a b => as_step (by omega) ht (by omega) (fun q => a (by omega)) (fun q => l0 fu (u + 1) (by omega) (fun w => a (by omega)) (fun w => b (by omega)))
  match k, hk1, hk with
  | 1, _, _ => exact l1 2 0 (by omega) (fun w => h1 (by omega)) (fun w => h2 (by omega))
  | 2, _, _ => exact as_step (u := 0) (by omega) ht (by omega) (fun q => h1 (by omega)) (fun q => l1 1 1 (by omega) (fun w => h1 (by omega)) (fun w => h2 (by omega)))
  | 3, _, _ => exact as_step (u := 0) (by omega) ht (by omega) (fun q => h1 (by omega)) (fun q => l1 1 1 (by omega) (fun w => h1 (by omega)) (fun w => h2 (by omega)))
  | 4, _, _ => exact as_step (u := 0) (by omega) ht (by omega) (fun q => h1 (by omega)) (fun q => l0 2 1 (by omega) (fun w => h1 (by omega)) (fun w => h2 (by omega)))
  | 5, _, _ => exact as_step (u := 0) (by omega) ht (by omega) (fun q => h1 (by omega)) (fun q => as_step (k := 4) (u := 1) (by omega) ht (by omega) (fun q => h1 (by omega)) (fun q2 => l0 1 2 (by omega) (fun w => h1 (by omega)) (fun w => h2 (by omega))))
theorem s_as (hS : sOwn S) : st_as (fun M _ => cAll S M) := by
  intro M J a b hI
  obtain ⟨n, e7, e8, h12, hrn, hn0⟩ := rail_n hI.2.2.2.1
  obtain ⟨rk, rv, rb, rs⟩ := rel_fun hI.2.2.2.1.1 hrn
  unfold wX7_as
  refine p7_isPeg ?_
  rw [e7]
  refine ⟨fun h => ?_, fun h => p7_within ⟨fun h2 => ?_, fun h2 => ?_⟩⟩
  · unfold wX8_as
    refine p8_isPeg ?_
    rw [e8]
    exact ⟨fun _ => ⟨rfl, hI⟩, fun q => absurd h q⟩
  · obtain ⟨k, hk, rfl⟩ := zin_nat (by omega) h
    obtain ⟨t, ht, rfl⟩ := zin_lit (n := 5) rfl h2
    obtain ⟨h3, -, hok⟩ := rail_pos hI.2.2.2.1 e7 h12 (by omega)
    obtain ⟨k1, k2⟩ := (hok k hk).1
    obtain ⟨c, hc⟩ : ∃ c : Nat, c = (M 21 k).toInt.toNat := ⟨_, rfl⟩
    have ec : M 21 k = nI c := by rw [hc]; exact pn_of (by omega)
    have ref : ∀ M1 : zM, (∀ o, o ≠ 0 → M1 o = M o) → ∀ Q : Int32 → zM → Prop, (zis c t → wX8_well M1 200 (nI k) Q) → (¬ zis c t → wX8_found M1 200 3 Q) → wX8_as M1 200 (nI k) (nI t) Q := by
      intro M1 e Q g1 g2
      unfold zis at g1 g2
      unfold wX8_as
      refine p8_isPeg ?_
      rw [e 206 (by decide), e8]
      refine ⟨fun q => absurd q h, fun _ => p8_in ⟨fun _ => ?_, fun q => absurd q h2⟩⟩
      unfold wX8_kindIn
      rw [nI_4]
      refine ⟨vp_of (by omega) (by omega), fun x ex => ?_⟩
      have ex : x = nI c := by
        rw [ex, cl_of (by omega), e (200 + 6) (by decide), ← ec]
        exact rk k hk
      rw [ex]
      have yes : (t = 0 ∨ t = c ∨ (t = 1 ∧ c < 4) ∨ (t = 4 ∧ c = 5)) → jnX8_as_60 M1 200 (nI k) Q 1 := fun w => ⟨fun q => absurd q (by decide), fun _ => g1 w⟩
      have no : ¬ (t = 0 ∨ t = c ∨ (t = 1 ∧ c < 4) ∨ (t = 4 ∧ c = 5)) → jnX8_as_60 M1 200 (nI k) Q 0 := fun w => ⟨fun _ => g2 w, fun q => absurd rfl q⟩
      have i0 : nI t = 0 ↔ t = 0 := nI_eq (b := 0) (by omega) (by omega)
      have i1 : nI t = 1 ↔ t = 1 := nI_eq (b := 1) (by omega) (by omega)
      have i4 : nI t = 4 ↔ t = 4 := nI_eq (b := 4) (by omega) (by omega)
      have ic : nI t = nI c ↔ t = c := nI_eq (by omega) (by omega)
      have j4 : nI c < 4 ↔ c < 4 := nI_ltI (b := 4) (by omega) (by omega)
      have j5 : nI c = 5 ↔ c = 5 := nI_eq (b := 5) (by omega) (by omega)
      have lo : ¬ t = 0 → ¬ t = c → ¬ (t = 1 ∧ c < 4) → jnX8_as_45 M1 200 (nI k) (nI t) (nI c) Q := by
        intro w0 w1 w2
        unfold jnX8_as_45
        rw [i4, j5]
        exact ⟨fun w => no (by omega), fun w => ⟨fun w3 => no (by omega), fun w3 => yes (by omega)⟩⟩
      show (nI t = 0 → _) ∧ (¬ nI t = 0 → (nI t = nI c → _) ∧ (¬ nI t = nI c → (¬ nI t = 1 → _) ∧ (nI t = 1 → (nI c < 4 → _) ∧ (¬ nI c < 4 → _))))
      rw [i0, ic, i1, j4]
      exact ⟨fun w => yes (by omega), fun w => ⟨fun w1 => yes (by omega), fun w1 => ⟨fun w2 => lo w w1 (by omega), fun w2 => ⟨fun w3 => yes (by omega), fun w3 => lo w w1 (by omega)⟩⟩⟩⟩
    refine ⟨vp_of (by omega) (by omega), 5, ?_⟩
    rw [cl_of (by omega), show M (0 + 20 + 1) k = nI c from ec]
    refine p7_as (by omega) (by omega) (by omega) (fun w => ?_) (fun w => both_found (P := fun r1 M1 Q => wX8_as M1 200 (nI k) (nI t) Q) hS hI (fun M1 e Q hQ => ref M1 e Q (fun q => absurd q w) (fun _ => hQ)))
    intro M1 e1
    refine ref M1 (fun o ho => by rw [e1, va_up_ne _ _ ho]) _ (fun _ M2 e2 => ⟨rfl, all_status (v := 0) hS hI ?_⟩) (fun q => absurd w q)
    rw [e2, e1, va_up_ne _ _ (by decide)]
  · unfold wX8_as
    refine p8_isPeg ?_
    rw [e8]
    exact ⟨fun _ => ⟨rfl, hI⟩, fun _ => p8_in ⟨fun q => absurd h2 q, fun _ => ⟨rfl, hI⟩⟩⟩
end PC
