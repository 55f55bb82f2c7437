/-! PURE: the small calls -/
section PA
variable {S : zM → Prop}
theorem s_status : st_status (fun M _ => cAll S M) := fun M J hI => ⟨hI.2.1, hI⟩
theorem s_fault : st_fault (fun M _ => cAll S M) := fun M J hI => ⟨hI.2.2.1.2.1, hI⟩
theorem s_trace : st_trace (fun M _ => cAll S M) := by
  intro M J a hI
  obtain ⟨e, t, et, ht, hk⟩ := hI.2.2.2.2.2.2.1
  have e2 : M 200 11 = nI t := by rw [← e]; exact et
  unfold wX7_trace
  refine p7_within ?_
  show (zin a 0 (M 163 0 - 1) = 0 → _) ∧ (¬ zin a 0 (M 163 0 - 1) = 0 → _)
  rw [et]
  unfold wX8_trace
  refine ⟨fun h => p8_in ?_, fun h => ?_⟩
  · show (zin a 0 (M 200 11 - 1) = 0 → _) ∧ (¬ zin a 0 (M 200 11 - 1) = 0 → _)
    rw [e2]
    exact ⟨fun _ => ⟨rfl, hI⟩, fun q => absurd h q⟩
  · obtain ⟨k, hk1, rfl⟩ := zin_nat (by omega) h
    refine ⟨vp_of (by omega) (by omega), p8_in ?_⟩
    show (zin (nI k) 0 (M 200 11 - 1) = 0 → _) ∧ (¬ zin (nI k) 0 (M 200 11 - 1) = 0 → _)
    rw [e2]
    refine ⟨fun q => absurd q h, fun _ => ⟨vp_of (by omega) (by omega), ?_, hI⟩⟩
    rw [cl_of (by omega)]
    exact hk k hk1
/-- the rail's pegs as a natural number, and a peg's own number -/
theorem rail_n {M : zM} (h : cRail M) : ∃ n : Nat, M 20 0 = nI n ∧ M 206 0 = nI n ∧ n ≤ 12 ∧ rn M 20 = n ∧ (n = 0 ∨ (3 ≤ n ∧ rok M 20)) := by
  rcases h.2 with q | q
  · exact ⟨0, q, by have := h.1.1; rw [this]; exact q, by omega, by unfold rn; rw [q]; rfl, Or.inl rfl⟩
  · obtain ⟨n, e, h3, h12, -⟩ := id q
    exact ⟨n, e, by have := h.1.1; rw [this]; exact e, h12, by unfold rn; rw [e]; exact cl_of (by omega), Or.inr ⟨h3, q⟩⟩
theorem nI_4 (k : Nat) : (2 : Int32) + 4 * nI k = nI (2 + 4 * k) := by
  rw [show (4 : Int32) = nI 4 from rfl, show (2 : Int32) = nI 2 from rfl, pk_mul, nI_add]
theorem s_kind : st_kind (fun M _ => cAll S M) := by
  intro M J a hI
  obtain ⟨n, e7, e8, h12, hrn, -⟩ := rail_n hI.2.2.2.1
  have hrel := hI.2.2.2.1.1
  unfold wX7_kind
  refine p7_isPeg ?_
  rw [e7]
  unfold wX8_kind
  refine ⟨fun h => p8_isPeg ?_, fun h => ?_⟩
  · rw [e8]; exact ⟨fun _ => ⟨rfl, hI⟩, fun q => absurd h q⟩
  · obtain ⟨k, hk, rfl⟩ := zin_nat (by omega) h
    refine ⟨vp_of (by omega) (by omega), p8_isPeg ?_⟩
    rw [e8]
    refine ⟨fun q => absurd q h, fun _ => ?_⟩
    unfold wX8_kindIn
    rw [nI_4]
    refine ⟨vp_of (by omega) (by omega), fun x ex => ⟨?_, hI⟩⟩
    rw [ex, cl_of (by omega), cl_of (by omega)]
    have := (hrel.2.2 k (by omega)).1
    rw [Nat.zero_add] at this
    exact this.symm
theorem s_feed (hS : sOwn S) : st_feed (fun M _ => cAll S M) := by
  intro M J a hI
  obtain ⟨t1, t2, ⟨t3, t4⟩, t5⟩ := hI.2.2.1
  have et : M 18 0 = nI (M 18 0).toInt.toNat := pn_of t3
  obtain ⟨t, ht⟩ : ∃ t, t = (M 18 0).toInt.toNat := ⟨_, rfl⟩
  rw [← ht] at et
  have et8 : M 200 1 = nI t := by rw [← t1]; exact et
  have hti : (M 18 0).toInt = t := by omega
  unfold wX7_feed
  refine p7_within ?_
  show (¬ zin a 0 255 = 0 → _) ∧ (zin a 0 255 = 0 → _)
  unfold wX8_feed
  refine ⟨fun h => ?_, fun h => p8_in ?_⟩
  · unfold wX6_isFull
    show (M 18 0 < 120 → _) ∧ (¬ M 18 0 < 120 → _)
    refine ⟨fun hf => ⟨fun _ => ?_, fun q => absurd rfl q⟩, fun hf => ⟨fun q => absurd q (by decide), fun _ => p8_in ?_⟩⟩
    · rw [pn_lt, hti, show (120 : Int32).toInt = 120 from rfl] at hf
      unfold wX6_append
      show vp_in (M 18 0) 120 ∧ _
      rw [et]
      refine ⟨vp_of (by omega) (by omega), fun M4 e4 M5 e5 => p8_in ?_⟩
      rw [cl_of (by omega)] at e4
      have f4 : M4 = va_up M 19 (upd (M 19) t a) := e4
      have f5 : M5 = va_up M4 18 (upd (M4 18) 0 (M4 18 0 + 1)) := e5
      have g18 : M4 18 = M 18 := by rw [f4, va_up_ne _ _ (by decide)]
      have g5 : ∀ o, o ≠ 18 → o ≠ 19 → M5 o = M o := fun o h1 h2 => by rw [f5, va_up_ne _ _ h1, f4, va_up_ne _ _ h2]
      have h18 : M5 18 = upd (M 18) 0 (nI (t + 1)) := by rw [f5, va_up_self, g18, et, nI_1]
      have h19 : M5 19 = upd (M 19) t a := by rw [f5, va_up_ne _ _ (by decide), f4, va_up_self]
      refine ⟨fun _ => ⟨fun hn => ?_, fun q => ?_⟩, fun q => absurd q h⟩
      · rw [show M5 200 1 = nI t by rw [g5 200 (by decide) (by decide)]; exact et8]
        refine ⟨vp_of (by omega) (by omega), fun M6 e6 M7 e7 => ?_⟩
        rw [cl_of (by omega)] at e6
        have f6 : M6 = va_up M5 205 (upd (M5 205) t a) := e6
        have f7 : M7 = va_up M6 200 (upd (M6 200) 1 (M6 200 1 + 1)) := e7
        have g200 : M6 200 = M 200 := by rw [f6, va_up_ne _ _ (by decide), g5 200 (by decide) (by decide)]
        have h200 : M7 200 = upd (M 200) 1 (nI (t + 1)) := by rw [f7, va_up_self, g200, et8, nI_1]
        have h205 : M7 205 = upd (M 205) t a := by rw [f7, va_up_ne _ _ (by decide), f6, va_up_self, g5 205 (by decide) (by decide)]
        have g7 : ∀ o, o ≠ 200 → o ≠ 205 → M7 o = M5 o := fun o h1 h2 => by rw [f7, va_up_ne _ _ h1, f6, va_up_ne _ _ h2]
        have g : ∀ o, o ≠ 18 → o ≠ 19 → o ≠ 200 → o ≠ 205 → M7 o = M o := fun o h1 h2 h3 h4 => (g7 o h3 h4).trans (g5 o h1 h2)
        have g2 : ∀ k, k ≠ 1 → M7 200 k = M 200 k := fun k hk => by rw [h200]; exact pk_un hk
        have h18' : M7 18 = upd (M 18) 0 (nI (t + 1)) := (g7 18 (by decide) (by decide)).trans h18
        have h19' : M7 19 = upd (M 19) t a := (g7 19 (by decide) (by decide)).trans h19
        refine ⟨?_, ?_⟩
        · show M5 18 0 = M7 200 1
          rw [h18, h200]; rfl
        · obtain ⟨a1, b1, c1, d1, ⟨f0, f1⟩, i1, j1, k1, l1⟩ := hI
          obtain ⟨za, zb⟩ := zin_in h
          rw [show (0 : Int32).toInt = 0 from rfl] at za
          rw [show (255 : Int32).toInt = 255 from rfl] at zb
          refine ⟨fun r hr => cRow_of (a1 r hr) (by rw [g 201 (by omega) (by omega) (by omega) (by omega)]) (by rw [g 202 (by omega) (by omega) (by omega) (by omega)]) (fun k _ => by rw [g 203 (by omega) (by omega) (by omega) (by omega)]) (g _ (by omega) (by omega) (by omega) (by omega)) (g _ (by omega) (by omega) (by omega) (by omega)), ?_, ?_, cRail_of d1 (g _ (by omega) (by omega) (by omega) (by omega)) (g _ (by omega) (by omega) (by omega) (by omega)) (g _ (by omega) (by omega) (by omega) (by omega)) (g _ (by omega) (by omega) (by omega) (by omega)) (g _ (by omega) (by omega) (by omega) (by omega)) (g _ (by omega) (by omega) (by omega) (by omega)), ⟨cImg_of f0 (by rw [g 211 (by omega) (by omega) (by omega) (by omega)]) (fun j hj => g _ (by omega) (by omega) (by omega) (by omega)) (g _ (by omega) (by omega) (by omega) (by omega)), cImg_of f1 (by rw [g 211 (by omega) (by omega) (by omega) (by omega)]) (fun j hj => g _ (by omega) (by omega) (by omega) (by omega)) (g _ (by omega) (by omega) (by omega) (by omega))⟩, cHist_of i1 (g2 8 (by omega)) (fun o h1 h2 => g o (by omega) (by omega) (by omega) (by omega)) (g _ (by omega) (by omega) (by omega) (by omega)), cAsk_of j1 (g _ (by omega) (by omega) (by omega) (by omega)) (g _ (by omega) (by omega) (by omega) (by omega)) (g2 11 (by omega)) (g _ (by omega) (by omega) (by omega) (by omega)), cSet_of k1 (by rw [g 165 (by omega) (by omega) (by omega) (by omega)]) (by rw [g 165 (by omega) (by omega) (by omega) (by omega)]), hS M M7 l1 (fun o h1 h2 => g o (by omega) (by omega) (by omega) (by omega))⟩
          · rw [g 0 (by omega) (by omega) (by omega) (by omega), g2 0 (by omega)]; exact b1
          · refine ⟨by rw [h18', h200]; rfl, ?_, ?_, ?_⟩
            · rw [h18', g2 2 (by omega)]; exact t2
            · rw [h18', show upd (M 18) 0 (nI (t + 1)) 0 = nI (t + 1) from rfl, pn_n (by omega)]; omega
            · intro k hk hk2
              rw [h18', show upd (M 18) 0 (nI (t + 1)) 0 = nI (t + 1) from rfl, pn_n (by omega)] at hk2
              rw [h19', h205]
              by_cases hkt : k = t
              · subst hkt
                rw [pk_us, pk_us]
                exact ⟨rfl, za, zb⟩
              · rw [pk_un hkt, pk_un hkt]
                exact t5 k hk (by omega)
      · exfalso
        rw [show M5 200 1 = nI t by rw [g5 200 (by decide) (by decide)]; exact et8, pn_eq, pn_n (by omega), show (120 : Int32).toInt = 120 from rfl] at q
        omega
    · rw [pn_lt, hti, show (120 : Int32).toInt = 120 from rfl] at hf
      refine ⟨fun _ => ⟨fun q => absurd ?_ q, fun _ => ⟨rfl, hI⟩⟩, fun q => absurd q h⟩
      show M 200 1 = 120
      rw [et8, show t = 120 by omega]
      rfl
  · show (¬ zin a 0 255 = 0 → _) ∧ (zin a 0 255 = 0 → _)
    exact ⟨fun q => absurd h q, fun _ => ⟨rfl, hI⟩⟩
end PA
