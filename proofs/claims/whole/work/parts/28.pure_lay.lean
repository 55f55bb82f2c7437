/-! PURE: lay(), read(), bound() -/
theorem hist_n {M : zM} (h : cHist M) : ∃ h x : Nat, M 41 0 = nI h ∧ M 41 1 = nI x ∧ h ≤ 24 ∧ x < 24 ∧ M 200 8 = nI h ∧ ∀ j, j < h → rok M (43 + 5 * ((x + 24 - h + j) % 24)) ∧ rel M (43 + 5 * ((x + 24 - h + j) % 24)) (M 209) (50 * j) := by
  obtain ⟨a, h, x, b, c, d, e, f⟩ := h
  exact ⟨h, x, b, c, d, e, by rw [← a]; exact b, f⟩
theorem zabs_le {x y : Int32} (h1 : -3 ≤ x.toInt) (h2 : x.toInt ≤ 3) (h : zabs x ≤ y) : -y.toInt ≤ x.toInt ∧ x.toInt ≤ y.toInt := by
  unfold zabs at h
  by_cases c : 0 ≤ x
  · rw [if_pos c] at h
    rw [pn_le, t0] at c
    rw [pn_le] at h
    omega
  · rw [if_neg c] at h
    rw [pn_le, t0] at c
    rw [pn_le, pn_sub (by rw [t0]; omega) (by rw [t0]; omega), t0] at h
    omega
section PY
variable {S : zM → Prop}
theorem s_lay (hS : sOwn S) : st_lay (fun M _ => cAll S M) := by
  intro M J a v hI
  obtain ⟨n, e7, e8, h12, hrn, hn0⟩ := rail_n hI.2.2.2.1
  obtain ⟨rk, rv, rb, rs⟩ := rel_fun hI.2.2.2.1.1 hrn
  obtain ⟨h, x, hh, hx, h24, x24, h8, hs⟩ := hist_n hI.2.2.2.2.2.1
  unfold wX7_lay
  refine p7_isPeg ?_
  rw [e7]
  refine ⟨fun c => ?_, fun c => p7_within ⟨fun c2 => ?_, fun c2 => ?_⟩⟩
  · unfold wX8_lay
    refine p8_isPeg ?_
    rw [e8]
    exact ⟨fun _ => ⟨rfl, hI⟩, fun q => absurd c q⟩
  · obtain ⟨k, hk, rfl⟩ := zin_nat (by omega) c
    obtain ⟨h3, -, hok⟩ := rail_pos hI.2.2.2.1 e7 h12 (by omega)
    have hok2 : rok M 20 := hn0.elim (fun q => by omega) (fun q => q.2)
    have hb := (hok k hk).2.2.1
    obtain ⟨v1, v2⟩ := zin_in c2
    rw [show (-3 : Int32).toInt = -3 from rfl] at v1
    rw [show (3 : Int32).toInt = 3 from rfl] at v2
    have ref : ∀ (M1 : zM) (Q : Int32 → zM → Prop), M1 206 = M 206 → (¬ zabs v ≤ fReach (M 21) (M 23) k → Q (-1000002) M1) → (zabs v ≤ fReach (M 21) (M 23) k → wX8_notes M1 200 (fun B => Q (B 206 (5 + 4 * k)) (va_up B 206 (upd (B 206) (5 + 4 * k) v)))) → wX8_lay M1 200 (nI k) v Q := by
      intro M1 Q e1 q1 q2
      unfold wX8_lay
      refine p8_isPeg ?_
      rw [e1, e8]
      refine ⟨fun q => absurd q c, fun _ => p8_in ⟨fun _ => p8_size (p8_reach (o := 206) (by omega) (by omega) (by omega) ?_), fun q => absurd q c2⟩⟩
      rw [e1, fReach_of hk rk rb]
      refine ⟨fun d => ?_, fun d => q1 d⟩
      refine Eq.mp ?_ (q2 d)
      congr 1
      funext B
      apply propext
      refine ⟨fun w => ?_, fun w => ?_⟩
      · intro x10 e10
        rw [show (((2 : Int32) + 4 * nI k) + 3) = nI (2 + 4 * k + 3) from nI_4c k 3] at e10
        rw [e10]
        refine ⟨vp_of (by omega) (by omega), fun x11 e11 => ?_⟩
        rw [show (((2 : Int32) + 4 * nI k) + 3) = nI (2 + 4 * k + 3) from nI_4c k 3] at e11
        rw [e11]
        refine ⟨vp_of (by omega) (by omega), fun M12 e12 => ?_⟩
        rw [e12, cl_of (by omega), show 2 + 4 * k + 3 = 5 + 4 * k by omega]
        exact w
      · have := ((w _ rfl).2 _ rfl).2 _ rfl
        rw [show (((2 : Int32) + 4 * nI k) + 3) = nI (2 + 4 * k + 3) from nI_4c k 3, cl_of (by omega), show 2 + 4 * k + 3 = 5 + 4 * k by omega] at this
        exact this
    refine p2_reach (o := 20) e7 h12 hk hb ⟨fun d => ⟨vp_of (by omega) (by omega), ?_⟩, fun d => ?_⟩
    · unfold wX7_laySlew
      refine p7_keep e7 h12 hh hx h24 x24 (fun K hK => ⟨vp_of (by omega) (by omega), fun A eA => ?_⟩)
      rw [cl_of (by omega)] at eA
      have eA : A = va_up K 24 (upd (K 24) k v) := eA
      have fA : ∀ o, o ≠ 24 → A o = K o := fun o ho => by rw [eA, va_up_ne _ _ ho]
      have kk : ∀ y, y ≠ 41 → (y < 43 ∨ 163 ≤ y) → K y = M y := fun y h1 h2 => hK.2.2.2 y h1 (by omega)
      have a206 : A 206 = M 206 := by rw [fA 206 (by decide), kk 206 (by decide) (by omega)]
      refine ref A _ a206 (fun q => absurd d q) (fun _ => p8_notes (by rw [fA 200 (by decide), kk 200 (by decide) (by omega)]; exact h8) h24 (fun B hB => ?_))
      have b206 : B 206 = M 206 := (hB.1 206 (by decide) (by decide)).trans a206
      rw [cl_of (by omega)]
      refine ⟨?_, ?_⟩
      · rw [b206]; exact (rs k hk).symm
      · have g : ∀ o, o ≠ 206 → va_up B 206 (upd (B 206) (5 + 4 * k) v) o = B o := fun o ho => va_up_ne _ _ ho
        have g2 : ∀ o, o < 41 → o ≠ 24 → va_up B 206 (upd (B 206) (5 + 4 * k) v) o = M o := fun o h1 h2 => by rw [g o (by omega), hB.1 o (by omega) (by omega), fA o h2, kk o (by omega) (by omega)]
        have g24 : va_up B 206 (upd (B 206) (5 + 4 * k) v) 24 = upd (M 24) k v := by rw [g 24 (by decide), hB.1 24 (by decide) (by decide), eA, va_up_self, kk 24 (by decide) (by omega)]
        refine all_act hS hI hh hx h24 x24 hs hok2 hrn hK (fun o ho => fA o (by omega)) hB g ⟨?_, Or.inr ?_⟩
        · exact rel_put (f := 3) (k := k) (v := v) hI.2.2.2.1.1 hrn (by omega) (g2 20 (by omega) (by omega)) g24 (fun f hf hf2 => g2 _ (by omega) (by omega)) (by rw [va_up_self, b206, show 2 + 3 + 4 * k = 5 + 4 * k by omega])
        · exact rok_put (f := 3) (k := k) (v := v) hok2 (by omega) (g2 20 (by omega) (by omega)) g24 (fun f hf hf2 => g2 _ (by omega) (by omega)) ⟨fun q => by omega, fun q => by omega, fun q => by omega, fun _ => ⟨v1, v2⟩⟩
    · exact ref M _ rfl (fun _ => ⟨rfl, hI⟩) (fun q => absurd q d)
  · unfold wX8_lay
    refine p8_isPeg ?_
    rw [e8]
    exact ⟨fun _ => ⟨rfl, hI⟩, fun _ => p8_in ⟨fun q => absurd c2 q, fun _ => ⟨rfl, hI⟩⟩⟩
theorem s_read (hS : sOwn S) : st_read (fun M _ => cAll S M) := by
  intro M J a v hI
  obtain ⟨n, e7, e8, h12, hrn, hn0⟩ := rail_n hI.2.2.2.1
  obtain ⟨rk, rv, rb, rs⟩ := rel_fun hI.2.2.2.1.1 hrn
  obtain ⟨h, x, hh, hx, h24, x24, h8, hs⟩ := hist_n hI.2.2.2.2.2.1
  unfold wX7_read
  refine p7_isPeg ?_
  rw [e7]
  refine ⟨fun c => ?_, fun c => p7_within ⟨fun c2 => ?_, fun c2 => ?_⟩⟩
  · unfold wX8_read
    refine p8_isPeg ?_
    rw [e8]
    exact ⟨fun _ => ⟨rfl, hI⟩, fun q => absurd c q⟩
  · obtain ⟨k, hk, rfl⟩ := zin_nat (by omega) c
    have hok2 : rok M 20 := hn0.elim (fun q => by omega) (fun q => q.2)
    obtain ⟨v1, v2⟩ := zin_in c2
    rw [show (0 : Int32).toInt = 0 from rfl] at v1
    rw [show (60 : Int32).toInt = 60 from rfl] at v2
    refine p7_keep e7 h12 hh hx h24 x24 (fun K hK => ⟨vp_of (by omega) (by omega), vp_of (by omega) (by omega), fun A eA => ?_⟩)
    rw [cl_of (by omega)] at eA
    have eA : A = va_up K 22 (upd (K 22) k v) := eA
    have fA : ∀ o, o ≠ 22 → A o = K o := fun o ho => by rw [eA, va_up_ne _ _ ho]
    have kk : ∀ y, y ≠ 41 → (y < 43 ∨ 163 ≤ y) → K y = M y := fun y h1 h2 => hK.2.2.2 y h1 (by omega)
    have a206 : A 206 = M 206 := by rw [fA 206 (by decide), kk 206 (by decide) (by omega)]
    unfold wX8_read
    refine p8_isPeg ?_
    rw [a206, e8]
    refine ⟨fun q => absurd q c, fun _ => p8_in ⟨fun _ => p8_notes (by rw [fA 200 (by decide), kk 200 (by decide) (by omega)]; exact h8) h24 (fun B hB => ?_), fun q => absurd q c2⟩⟩
    have b206 : B 206 = M 206 := (hB.1 206 (by decide) (by decide)).trans a206
    intro x8 e8'
    rw [show (((2 : Int32) + 4 * nI k) + 1) = nI (2 + 4 * k + 1) from nI_4c k 1] at e8'
    rw [e8']
    refine ⟨vp_of (by omega) (by omega), fun x9 e9 => ?_⟩
    rw [show (((2 : Int32) + 4 * nI k) + 1) = nI (2 + 4 * k + 1) from nI_4c k 1] at e9
    rw [e9]
    refine ⟨vp_of (by omega) (by omega), fun N eN => ?_⟩
    rw [cl_of (by omega), show 2 + 4 * k + 1 = 3 + 4 * k by omega] at eN
    rw [cl_of (by omega), cl_of (by omega), show 2 + 4 * k + 1 = 3 + 4 * k by omega]
    have g : ∀ o, o ≠ 206 → N o = B o := fun o ho => by rw [eN]; exact va_up_ne _ _ ho
    have g2 : ∀ o, o < 41 → o ≠ 22 → N o = M o := fun o h1 h2 => by rw [g o (by omega), hB.1 o (by omega) (by omega), fA o h2, kk o (by omega) (by omega)]
    have g24 : N 22 = upd (M 22) k v := by rw [g 22 (by decide), hB.1 22 (by decide) (by decide), eA, va_up_self, kk 22 (by decide) (by omega)]
    refine ⟨?_, all_act hS hI hh hx h24 x24 hs hok2 hrn hK (fun o ho => fA o (by omega)) hB g ⟨?_, Or.inr ?_⟩⟩
    · show K 22 k = B 206 (3 + 4 * k)
      rw [b206, kk 22 (by decide) (by omega)]; exact (rv k hk).symm
    · exact rel_put (f := 1) (k := k) (v := v) hI.2.2.2.1.1 hrn (by omega) (g2 20 (by omega) (by omega)) g24 (fun f hf hf2 => g2 _ (by omega) (by omega)) (by rw [eN]; show va_up B 206 _ 206 = _; rw [va_up_self, show B (200 + 6) = M 206 from b206, show 2 + 1 + 4 * k = 3 + 4 * k by omega])
    · exact rok_put (f := 1) (k := k) (v := v) hok2 (by omega) (g2 20 (by omega) (by omega)) g24 (fun f hf hf2 => g2 _ (by omega) (by omega)) ⟨fun q => by omega, fun _ => by omega, fun q => by omega, fun q => by omega⟩
  · unfold wX8_read
    refine p8_isPeg ?_
    rw [e8]
    exact ⟨fun _ => ⟨rfl, hI⟩, fun _ => p8_in ⟨fun q => absurd c2 q, fun _ => ⟨rfl, hI⟩⟩⟩
end PY
