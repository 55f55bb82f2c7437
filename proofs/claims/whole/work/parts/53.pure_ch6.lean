/-! PURE: chance() -/
theorem all_ch {S : zM → Prop} (hS : sOwn S) {M N : zM} (h : cAll S M) (E : ∀ o, o ≠ 165 → o ≠ 208 → N o = M o) (hs : cSet N) : cAll S N := by
  obtain ⟨a, b, c, d, ⟨f0, f1⟩, g, i, j, k⟩ := h
  have E : ∀ o, o < 165 ∨ (165 < o ∧ o < 208) ∨ 208 < o → N o = M o := fun o ho => E o (by omega) (by omega)
  have e2 := E 200 (by omega)
  exact ⟨fun r hr => cRow_of (a r hr) (by rw [E 201 (by omega)]) (by rw [E 202 (by omega)]) (fun k _ => by rw [E 203 (by omega)]) (E _ (by omega)) (E _ (by omega)), by rw [E 0 (by omega), e2]; exact b, cTape_of c (E _ (by omega)) (E _ (by omega)) (by rw [e2]) (by rw [e2]) (E _ (by omega)), cRail_of d (E _ (by omega)) (E _ (by omega)) (E _ (by omega)) (E _ (by omega)) (E _ (by omega)) (E _ (by omega)), ⟨cImg_of f0 (by rw [E 211 (by omega)]) (fun j hj => E _ (by omega)) (E _ (by omega)), cImg_of f1 (by rw [E 211 (by omega)]) (fun j hj => E _ (by omega)) (E _ (by omega))⟩, cHist_of g (by rw [e2]) (fun o h1 h2 => E o (by omega)) (E _ (by omega)), cAsk_of i (E _ (by omega)) (E _ (by omega)) (by rw [e2]) (E _ (by omega)), hs, hS M N k (fun o h1 h2 => E o (by omega))⟩
theorem s_chance {S : zM → Prop} (hS : sOwn S) : st_chance (fun M _ => cAll S M) := by
  intro M J a1 a2 a3 hI
  obtain ⟨n, e7, e8, h12, hrn, hn0⟩ := rail_n hI.2.2.2.1
  have hrow : rowOf (M 206) n (M 20 1) (M 21) (M 22) (M 23) (M 24) := row_rel hI.2.2.2.1.1 e7 h12
  have e7' : M (0 + 20) 0 = nI n := e7
  unfold wX7_chance
  refine p2_isThere ?_
  show (¬ (if M (0 + 20) 0 ≤ 0 then (0 : Int32) else 1) = 0 → _) ∧ ((if M (0 + 20) 0 ≤ 0 then (0 : Int32) else 1) = 0 → _)
  rw [e7']
  by_cases hz : n = 0
  · rw [if_pos ((n_le0 h12).2 hz)]
    refine ⟨fun c => absurd rfl c, fun _ => ?_⟩
    unfold wX8_chance
    refine p8_isRail ?_
    rw [e8, if_pos ((n_le0 h12).2 hz)]
    exact ⟨fun c => absurd rfl c, fun _ => ⟨rfl, hI⟩⟩
  · rw [if_neg (fun q => hz ((n_le0 h12).1 q))]
    obtain ⟨h3, -, hok⟩ := rail_pos hI.2.2.2.1 e7 h12 (by omega)
    have bad : (zin a1 0 99 = 0 ∨ zin a2 0 10 = 0 ∨ zin a3 0 1 = 0) → wX8_chance M 200 a1 a2 a3 (fun r2 M2 => -1000001 = r2 ∧ cAll S M2) := by
      intro hb
      unfold wX8_chance
      refine p8_isRail ?_
      rw [e8, if_neg (fun q => hz ((n_le0 h12).1 q))]
      refine ⟨fun _ => p8_in ⟨fun _ => ⟨rfl, hI⟩, fun q1 => p8_in ⟨fun _ => ⟨rfl, hI⟩, fun q2 => p8_in ⟨fun q3 => ?_, fun _ => ⟨rfl, hI⟩⟩⟩⟩, fun q => absurd q (by decide)⟩
      rcases hb with y | y | y
      · exact absurd y q1
      · exact absurd y q2
      · exact absurd y q3
    refine ⟨fun _ => p7_within ⟨fun q1 => bad (Or.inl q1), fun q1 => p7_within ⟨fun q2 => bad (Or.inr (Or.inl q2)), fun q2 => p7_within ⟨fun q3 => ?_, fun q3 => bad (Or.inr (Or.inr q3))⟩⟩⟩, fun q => absurd q (by decide)⟩
    obtain ⟨v, hv, ev⟩ := zin_lit (n := 99) rfl q1
    obtain ⟨c, hc, ec⟩ := zin_lit (n := 10) rfl q2
    rw [ev, ec]
    rw [ev] at q1
    rw [ec] at q2
    have hA := aC_le (K := M 21) (V := M 22) (S := M 24) (v := nI v) hc h12
    have hB := bCl_le (K := M 21) (S := M 24) h12
    have hB0 := bCl_pos (M 21) (M 24) n
    refine p5_solve (n := n) (K := M 21) (V := M 22) (S := M 24) ⟨e7, h12, rfl, rfl, rfl⟩ h3 hI.2.2.2.2.2.2.2.1 hc (by omega) (by omega) hB0 (fun N J' fN sN zA zB => ?_)
    have e6 : N 206 = M 206 := fN 206 (by decide)
    have hRa := aR_le (K := M 21) (V := M 22) (S := M 24) (v := nI v) hc h12
    have hRb := bRf_le (K := M 21) h12
    have hRp : 0 < bRf n (M 21) := by rw [bRf_is (S := M 24)]; exact Nat.mul_pos (tD_pos _ _ _) hB0
    have hg0 : 0 < Nat.gcd (aR n (M 21) (M 22) (M 24) (nI v) c) (bRf n (M 21)) := Nat.gcd_pos_of_pos_right _ hRp
    have hgl : Nat.gcd (aR n (M 21) (M 22) (M 24) (nI v) c) (bRf n (M 21)) ≤ bRf n (M 21) := Nat.le_of_dvd hRp (Nat.gcd_dvd_right _ _)
    have fin : ∀ r1 : Int64, (¬ a3 = 0 → r1 = lN (bCl n (M 21) (M 24) / Nat.gcd (bCl n (M 21) (M 24)) (aC n (M 21) (M 22) (M 24) (nI v) c))) → (a3 = 0 → r1 = lN (aC n (M 21) (M 22) (M 24) (nI v) c / Nat.gcd (bCl n (M 21) (M 24)) (aC n (M 21) (M 22) (M 24) (nI v) c))) → wX8_chance N 200 (nI v) (nI c) a3 (fun r2 M2 => r1 = r2 ∧ cAll S M2) := by
      intro r1 h1 h2
      unfold wX8_chance
      refine p8_isRail ?_
      rw [e6, e8, if_neg (fun q => hz ((n_le0 h12).1 q))]
      refine ⟨fun _ => p8_in ⟨fun y => absurd y q1, fun _ => p8_in ⟨fun y => absurd y q2, fun _ => p8_in ⟨fun _ => ?_, fun y => absurd y q3⟩⟩⟩, fun q => absurd q (by decide)⟩
      refine p8_soft (n := n) (W := M 20 1) (K := M 21) (V := M 22) (B := M 23) (S := M 24) h12 (by rw [e6]; exact hrow) (fun x => ?_)
      refine p8_sets (n := n) (W := M 20 1) (K := M 21) (V := M 22) (B := M 23) (S := M 24) (by omega) h12 hc hv (by rw [e6]; exact hrow) (fun x2 P fP => ?_)
      have cP : cAll S P := all_ch hS hI (fun o o1 o2 => by rw [fP o o2, fN o o1]) (cSet_of sN (by rw [fP 165 (by decide)]) (by rw [fP 165 (by decide)]))
      refine p8_gcd _ _ (by omega) (by omega) (fun z => ⟨fun y => ⟨l0_ne hg0 (by omega), ?_, cP⟩, fun y => ⟨l0_ne hg0 (by omega), ?_, cP⟩⟩)
      · rw [pk_lDiv (by omega) hg0 (by omega), low_b hc]; exact h1 y
      · rw [pk_lDiv (by omega) hg0 (by omega), low_a hc]; exact h2 y
    exact ⟨fun y => fin _ (fun _ => zB) (fun z => absurd z y), fun y => fin _ (fun z => absurd y z) (fun _ => zA)⟩
