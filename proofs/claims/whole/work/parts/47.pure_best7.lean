/-! PURE: best() -/
theorem all_best {S : zM → Prop} {M N : zM} (h : cAll S M) (E : ∀ o, (o < 168 ∨ 176 ≤ o) → o ≠ 200 → o ≠ 212 → o ≠ 213 → N o = M o) (e2 : ∀ k, k ≠ 9 → k ≠ 10 → N 200 k = M 200 k) (hs : S N) : cAll S N := by
  obtain ⟨a, b, c, d, ⟨f0, f1⟩, g, i, j, k⟩ := h
  have E : ∀ o, o < 168 ∨ (176 ≤ o ∧ o < 200) ∨ (200 < o ∧ o < 212) ∨ 213 < o → N o = M o := fun o ho => E o (by omega) (by omega) (by omega) (by omega)
  exact ⟨fun r hr => cRow_of (a r hr) (by rw [E 201 (by omega)]) (by rw [E 202 (by omega)]) (fun k _ => by rw [E 203 (by omega)]) (E _ (by omega)) (E _ (by omega)), by rw [E 0 (by omega), e2 0 (by omega) (by omega)]; exact b, cTape_of c (E _ (by omega)) (E _ (by omega)) (e2 1 (by omega) (by omega)) (e2 2 (by omega) (by omega)) (E _ (by omega)), cRail_of d (E _ (by omega)) (E _ (by omega)) (E _ (by omega)) (E _ (by omega)) (E _ (by omega)) (E _ (by omega)), ⟨cImg_of f0 (by rw [E 211 (by omega)]) (fun j hj => E _ (by omega)) (E _ (by omega)), cImg_of f1 (by rw [E 211 (by omega)]) (fun j hj => E _ (by omega)) (E _ (by omega))⟩, cHist_of g (e2 8 (by omega) (by omega)) (fun o h1 h2 => E o (by omega)) (E _ (by omega)), cAsk_of i (E _ (by omega)) (E _ (by omega)) (e2 11 (by omega) (by omega)) (E _ (by omega)), cSet_of j (by rw [E 165 (by omega)]) (by rw [E 165 (by omega)]), hs⟩
theorem s_best : st_best (fun M _ => cAll sS M) := by
  intro M J w hI
  obtain ⟨n, e7, e8, h12, hrn, hn0⟩ := rail_n hI.2.2.2.1
  have hrow : rowOf (M 206) n (M 20 1) (M 21) (M 22) (M 23) (M 24) := row_rel hI.2.2.2.1.1 e7 h12
  have e7' : M (0 + 20) 0 = nI n := e7
  unfold wX7_best
  refine p2_isThere ?_
  show (¬ (if M (0 + 20) 0 ≤ 0 then (0 : Int32) else 1) = 0 → _) ∧ ((if M (0 + 20) 0 ≤ 0 then (0 : Int32) else 1) = 0 → _)
  rw [e7']
  by_cases hz : n = 0
  · rw [if_pos ((n_le0 h12).2 hz)]
    refine ⟨fun c => absurd rfl c, fun _ => ?_⟩
    unfold wX8_best
    refine p8_isRail ?_
    rw [e8, if_pos ((n_le0 h12).2 hz)]
    exact ⟨fun c => absurd rfl c, fun _ => ⟨rfl, hI⟩⟩
  · rw [if_neg (fun q => hz ((n_le0 h12).1 q))]
    obtain ⟨h3, -, hok⟩ := rail_pos hI.2.2.2.1 e7 h12 (by omega)
    have hg : rg n (ct n (M 22)) (ct n (M 23)) := ⟨h3, h12, fun k hk => by rw [ct_in hk]; exact (hok k hk).2.1, fun k hk => by rw [ct_in hk]; exact (hok k hk).2.2.1⟩
    have e9 : (9 : Int32) + nI n = nI (9 + n) := nI_add 9 n
    have body : (¬ zin w 0 2 = 0 ∨ ¬ zin w 10 (9 + nI n) = 0) → jnX7_best_44 M 0 w (fun r1 M1 => wX8_best M1 200 w (fun r2 M2 => r1 = r2 ∧ cAll sS M2)) := by
      intro hw
      have hw' : (0 ≤ w.toInt ∧ w.toInt ≤ 2) ∨ ∃ k, k < n ∧ w = nI (10 + k) := by
        rcases hw with q | q
        · have q2 := zin_in q
          rw [t0, show (2 : Int32).toInt = 2 from rfl] at q2
          exact Or.inl q2
        · have q2 := zin_in q
          rw [e9, pn_n (by omega), show (10 : Int32).toInt = 10 from rfl] at q2
          refine Or.inr ⟨w.toInt.toNat - 10, by omega, ?_⟩
          rw [pn_eq, pn_n (by omega)]; omega
      unfold jnX7_best_44
      refine p4_solve (n := n) hI.2.2.2.2.2.2.2.2 e7 hg (fun N s fN sN bN kN => ?_)
      have rlL := bL_rl (K := ct n (M 21)) hg (bA n (ct n (M 21)) (ct n (M 22)) (ct n (M 23)))
      have hL := bL_lt (K := ct n (M 21)) hg
      have hM := bM_lt (K := ct n (M 21)) hg
      have srN : sr N 200 n (ct n (M 21)) (ct n (M 22)) (ct n (M 23)) := by
        unfold sr
        rw [show N (200 + 6) = M 206 from fN 206 (by omega)]
        exact ⟨e8, fun k hk => by rw [ct_in hk]; exact hrow.2.2.1 k hk, fun k hk => by rw [ct_in hk]; exact hrow.2.2.2.1 k hk, fun k hk => by rw [ct_in hk]; exact hrow.2.2.2.2.1 k hk⟩
      have fin : ∀ r1 : Int32, (w.toInt = 0 → r1 = nI (bA n (ct n (M 21)) (ct n (M 22)) (ct n (M 23)))) → (w.toInt = 1 → r1 = nI (bL n (ct n (M 21)) (ct n (M 22)) (ct n (M 23)) / 64)) → (w.toInt = 2 → r1 = nI (bL n (ct n (M 21)) (ct n (M 22)) (ct n (M 23)) % 64)) → (∀ k, k < n → w = nI (10 + k) → r1 = cd (s k)) → wX8_best N 200 w (fun r2 M2 => r1 = r2 ∧ cAll sS M2) := by
        intro r1 a0 a1 a2 a3
        have cP : ∀ P : zM, (∀ x, x ≠ 200 → x ≠ 200 + 12 → x ≠ 200 + 13 → P x = N x) → (∀ k, k ≠ 9 → k ≠ 10 → P 200 k = N 200 k) → cAll sS P := fun P fP gP => all_best hI (fun o h1 h2 h3 h4 => by rw [fP o h2 h3 h4, fN o h1]) (fun k h1 h2 => by rw [gP k h1 h2, fN 200 (by omega)]) (sS_own N P sN (fun o h1 h2 => fP o (by omega) (by omega) (by omega)))
        unfold wX8_best
        refine p8_isRail ?_
        rw [show N 206 = M 206 from fN 206 (by omega), e8, if_neg (fun q => hz ((n_le0 h12).1 q))]
        refine ⟨fun _ x5 e5 => ?_, fun q => absurd q (by decide)⟩
        have e5 : x5 = 9 + nI n := by rw [e5]; show (9 : Int32) + M 206 0 = _; rw [e8]
        rw [e5]
        refine p8_in ⟨fun q => ?_, fun q => p8_in ⟨fun q2 => ?_, fun q2 => ?_⟩⟩
        · unfold jnX8_best_42
          have q2 := zin_in q
          rw [e9, pn_n (by omega), show (10 : Int32).toInt = 10 from rfl] at q2
          obtain ⟨k, hk, ek⟩ : ∃ k, k < n ∧ w = nI (10 + k) := ⟨w.toInt.toNat - 10, by omega, by rw [pn_eq, pn_n (by omega)]; omega⟩
          have ew : w - 10 = nI k := by rw [ek, show (10 : Int32) = nI 10 from rfl, pk_sub (by omega), show 10 + k - 10 = k by omega]
          rw [ew, cl_of (by omega)]
          refine p8_findsBest srN hg bN (fun P fP gP p9 p10 sP => ⟨fun z => absurd z q, fun _ => ⟨vp_of (by omega) (by omega), fun x10 e10 => ⟨?_, cP P fP gP⟩⟩⟩)
          rw [e10, sP k hk]
          exact a3 k hk ek
        · unfold jnX8_best_42
          have q3 := zin_in q2
          rw [t0, show (2 : Int32).toInt = 2 from rfl] at q3
          refine p8_findsBest srN hg bN (fun P fP gP p9 p10 sP => ⟨fun _ => ⟨fun w0 => ⟨fun w1 x9 e9 => ⟨?_, cP P fP gP⟩, fun w1 => ⟨?_, cP P fP gP⟩⟩, fun w0 => ⟨?_, cP P fP gP⟩⟩, fun z => absurd q z⟩)
          · have v0 : ¬ w.toInt = 0 := fun y => w0 (by rw [pn_eq, y, t0])
            have v1 : ¬ w.toInt = 1 := fun y => w1 (by rw [pn_eq, y, t1])
            rw [e9, p10, show (1000 : Int32) = nI 1000 from rfl, pk_rem (by omega) (by omega) (by omega), a2 (by omega)]
            congr 1
            have rlL : rl 14 (bL n (ct n (M 21)) (ct n (M 22)) (ct n (M 23))) _ := rlL
            rcases rlL with ⟨y1, y2⟩ | ⟨u, m, y1, y2, y3, y4⟩ <;> omega
          · have v1 : w.toInt = 1 := by rw [w1]; rfl
            rw [p10, show (1000 : Int32) = nI 1000 from rfl, pk_div (by omega) (by omega) (by omega), a1 v1]
            congr 1
            have rlL : rl 14 (bL n (ct n (M 21)) (ct n (M 22)) (ct n (M 23))) _ := rlL
            rcases rlL with ⟨y1, y2⟩ | ⟨u, m, y1, y2, y3, y4⟩ <;> omega
          · have v0 : w.toInt = 0 := by rw [w0]; rfl
            rw [p9]; exact a0 v0
        · exfalso
          rcases hw with y | y
          · exact y q2
          · exact y q
      obtain ⟨k0, k1, k2, k3⟩ := kN
      refine ⟨fun q => ?_, fun q => fin _ (fun _ => k0) (fun y => by omega) (fun y => by omega) (fun k hk ek => ?_), fun q => fin _ (fun y => by omega) (fun _ => k1) (fun y => by omega) (fun k hk ek => ?_), fun q => fin _ (fun y => by omega) (fun y => by omega) (fun _ => k2) (fun k hk ek => ?_)⟩
      · obtain ⟨k, hk, ek⟩ : ∃ k, k < n ∧ w = nI (10 + k) := by
          rcases hw' with y | y
          · omega
          · exact y
        have ew : w - 10 = nI k := by rw [ek, show (10 : Int32) = nI 10 from rfl, pk_sub (by omega), show 10 + k - 10 = k by omega]
        have wi : w.toInt = 10 + k := by rw [ek, pn_n (by omega)]; omega
        rw [ew, cl_of (by omega)]
        refine ⟨vp_of (by omega) (by omega), fun x8 e8 => fin _ (fun y => by omega) (fun y => by omega) (fun y => by omega) (fun k' hk' ek' => ?_)⟩
        rw [ek, nI_eq (by omega) (by omega)] at ek'
        obtain rfl : k = k' := by omega
        rw [e8]; exact k3 k hk
      · exfalso; rw [ek, pn_n (by omega)] at q; omega
      · exfalso; rw [ek, pn_n (by omega)] at q; omega
      · exfalso; rw [ek, pn_n (by omega)] at q; omega
    refine ⟨fun _ => p7_within ⟨fun c => body (Or.inl c), fun c => ?_⟩, fun c => absurd c (by decide)⟩
    refine p7_within ⟨fun d => body (Or.inr d), fun d => ?_⟩
    unfold wX8_best
    refine p8_isRail ?_
    rw [e8, if_neg (fun q => hz ((n_le0 h12).1 q))]
    refine ⟨fun _ x5 e5 => ?_, fun q => absurd q (by decide)⟩
    have e5 : x5 = 9 + nI n := by rw [e5]; show (9 : Int32) + M 206 0 = _; rw [e8]
    rw [e5]
    exact p8_in ⟨fun q => absurd d q, fun _ => p8_in ⟨fun q => absurd c q, fun _ => ⟨rfl, hI⟩⟩⟩
