/-! PURE: rows -/
def zhold (sz i n : Int32) : Int32 := if i < 0 then 0 else if n < 0 then 0 else if sz < i then 0 else if sz - i < n then 0 else 1
def zlow (lane v : Int32) : Int32 := if lane = 0 then v.toInt8.toInt32 else if lane = 1 then v.toInt16.toInt32 else v
theorem p3_isMissing {M : zM} {o : Nat} {Q : Int32 → Prop} (h : Q (if M o 0 = -1 then 1 else 0)) : wX3_isMissing M o Q := by
  unfold wX3_isMissing
  exact ⟨fun c => by rwa [if_neg c] at h, fun c => by rwa [if_pos c] at h⟩
theorem p8_isMissing {M : zM} {k : Nat} {Q : Int32 → Prop} (hk : k < 8) (h : Q (if M 201 k = -1000000 then 1 else 0)) : wX8_isMissing M 200 (nI k) Q := by
  unfold wX8_isMissing
  rw [cl_of (by omega)]
  exact ⟨vp_of hk (by omega), fun c => by rwa [if_neg c] at h, fun c => by rwa [if_pos c] at h⟩
theorem p3_holds {M : zM} {o : Nat} {i n : Int32} {Q : Int32 → Prop} (h : Q (zhold (M o 1) i n)) : wX3_holds M o i n Q := by
  unfold wX3_holds
  unfold zhold at h
  refine ⟨fun c => by rwa [if_pos c] at h, fun c => ?_⟩
  rw [if_neg c] at h
  refine ⟨fun c => by rwa [if_pos c] at h, fun c => ?_⟩
  rw [if_neg c] at h
  refine ⟨fun c => by rwa [if_pos c] at h, fun c => ?_⟩
  rw [if_neg c] at h
  exact ⟨fun c => by rwa [if_pos c] at h, fun c => by rwa [if_neg c] at h⟩
theorem p8_isPart {M : zM} {k : Nat} {i n : Int32} {Q : Int32 → Prop} (hk : k < 8) (h : Q (zhold (M 202 k) i n)) : wX8_isPart M 200 (nI k) i n Q := by
  unfold wX8_isPart
  unfold zhold at h
  rw [cl_of (by omega)]
  refine ⟨fun c => by rwa [if_pos c] at h, fun c => ?_⟩
  rw [if_neg c] at h
  refine ⟨fun c => by rwa [if_pos c] at h, fun c => ?_⟩
  rw [if_neg c] at h
  refine ⟨vp_of hk (by omega), fun c => by rwa [if_pos c] at h, fun c => ?_⟩
  rw [if_neg c] at h
  exact ⟨vp_of hk (by omega), fun c => by rwa [if_pos c] at h, fun c => by rwa [if_neg c] at h⟩
theorem low8 (x : Int32) : (x <<< ((24 : Int32) &&& 31)) >>> ((24 : Int32) &&& 31) = x.toInt8.toInt32 := by
  apply Int32.toBitVec_inj.mp
  rw [Int32.toBitVec_shiftRight, Int32.toBitVec_shiftLeft, Int8.toBitVec_toInt32, Int32.toBitVec_toInt8]
  rw [show ((24 : Int32) &&& 31).toBitVec.smod 32 = 24#32 by decide]
  apply BitVec.eq_of_getLsbD_eq
  intro i hi
  simp only [BitVec.sshiftRight_eq', BitVec.shiftLeft_eq', BitVec.getLsbD_sshiftRight, BitVec.getLsbD_shiftLeft, BitVec.getLsbD_signExtend, BitVec.getLsbD_setWidth, BitVec.msb_eq_getLsbD_last, show (24#32).toNat = 24 from rfl]
  by_cases h : i < 8
  · simp [h, show 24 + i < 32 by omega, hi, show ¬ 32 ≤ i by omega, show ¬ 24 + i < 24 by omega]
  · simp [h, show ¬ 24 + i < 32 by omega, hi]
theorem low16 (x : Int32) : (x <<< ((16 : Int32) &&& 31)) >>> ((16 : Int32) &&& 31) = x.toInt16.toInt32 := by
  apply Int32.toBitVec_inj.mp
  rw [Int32.toBitVec_shiftRight, Int32.toBitVec_shiftLeft, Int16.toBitVec_toInt32, Int32.toBitVec_toInt16]
  rw [show ((16 : Int32) &&& 31).toBitVec.smod 32 = 16#32 by decide]
  apply BitVec.eq_of_getLsbD_eq
  intro i hi
  simp only [BitVec.sshiftRight_eq', BitVec.shiftLeft_eq', BitVec.getLsbD_sshiftRight, BitVec.getLsbD_shiftLeft, BitVec.getLsbD_signExtend, BitVec.getLsbD_setWidth, BitVec.msb_eq_getLsbD_last, show (16#32).toNat = 16 from rfl]
  by_cases h : i < 16
  · simp [h, show 16 + i < 32 by omega, hi, show ¬ 32 ≤ i by omega, show ¬ 16 + i < 16 by omega]
  · simp [h, show ¬ 16 + i < 32 by omega, hi]
theorem p8_lowest {M : zM} {l v : Int32} {Q : Int32 → Prop} (h : Q (zlow l v)) : wX8_lowest M l v Q := by
  unfold wX8_lowest
  unfold zlow at h
  refine ⟨fun c => ?_, fun c x e => by rw [e, low8]; rwa [if_pos c] at h⟩
  rw [if_neg c] at h
  exact ⟨fun c => by rwa [if_neg c] at h, fun c x e => by rw [e, low16]; rwa [if_pos c] at h⟩
theorem p3_put {M : zM} {o i : Nat} {v : Int32} {Q : Int32 → zM → Prop} (hi : i < 40) (h : Q (zlow (M o 0) v) (va_up M (o + 1) (upd (M (o + 1)) i (zlow (M o 0) v)))) : wX3_put M o (nI i) v Q := by
  have key : ∀ x, Q x (va_up M (o + 1) (upd (M (o + 1)) i x)) → jnX3_put_31 M o (nI i) Q x := by
    intro x hq
    unfold jnX3_put_31
    rw [cl_of (by omega)]
    refine ⟨vp_of hi (by omega), fun M6 e6 => ⟨vp_of hi (by omega), ?_⟩⟩
    rw [e6, va_up_self, pk_us]
    exact hq
  unfold wX3_put
  unfold zlow at h
  refine ⟨fun c => ?_, fun c => key _ (by rwa [if_pos c] at h)⟩
  rw [if_neg c] at h
  exact ⟨fun c => key _ (by rwa [if_neg c] at h), fun c => key _ (by rwa [if_pos c] at h)⟩
/-- the frame of a call that writes one row -/
theorem all_row {S : zM → Prop} (hS : sOwn S) {M N : zM} {r : Nat} (h : cAll S M) (hr : r < 8) (e : ∀ o, o ≠ 0 → o ≠ 200 → o ≠ 2 + 2 * r → o ≠ 3 + 2 * r → o ≠ 201 → o ≠ 202 → o ≠ 203 → o ≠ 204 → N o = M o) (e2 : ∀ k, k ≠ 0 → N 200 k = M 200 k) (hst : N 0 0 = N 200 0) (hrow : cRow N r) (ho : ∀ q, q < 8 → q ≠ r → N 201 q = M 201 q ∧ N 202 q = M 202 q ∧ ∀ k, k < 40 → N 203 (40 * q + k) = M 203 (40 * q + k)) : cAll S N := by
  obtain ⟨a, b, c, d, ⟨f0, f1⟩, g, i, j, k⟩ := h
  have E : ∀ o, 18 ≤ o → o ≠ 200 → o ≠ 201 → o ≠ 202 → o ≠ 203 → o ≠ 204 → N o = M o := fun o h1 h2 h3 h4 h5 h6 => e o (by omega) h2 (by omega) (by omega) h3 h4 h5 h6
  refine ⟨fun q hq => ?_, hst, cTape_of c (E _ (by omega) (by omega) (by omega) (by omega) (by omega) (by omega)) (E _ (by omega) (by omega) (by omega) (by omega) (by omega) (by omega)) (e2 1 (by omega)) (e2 2 (by omega)) (E _ (by omega) (by omega) (by omega) (by omega) (by omega) (by omega)), cRail_of d (E _ (by omega) (by omega) (by omega) (by omega) (by omega) (by omega)) (E _ (by omega) (by omega) (by omega) (by omega) (by omega) (by omega)) (E _ (by omega) (by omega) (by omega) (by omega) (by omega) (by omega)) (E _ (by omega) (by omega) (by omega) (by omega) (by omega) (by omega)) (E _ (by omega) (by omega) (by omega) (by omega) (by omega) (by omega)) (E _ (by omega) (by omega) (by omega) (by omega) (by omega) (by omega)), ⟨cImg_of f0 (by rw [E 211 (by omega) (by omega) (by omega) (by omega) (by omega) (by omega)]) (fun j hj => E _ (by omega) (by omega) (by omega) (by omega) (by omega) (by omega)) (E _ (by omega) (by omega) (by omega) (by omega) (by omega) (by omega)), cImg_of f1 (by rw [E 211 (by omega) (by omega) (by omega) (by omega) (by omega) (by omega)]) (fun j hj => E _ (by omega) (by omega) (by omega) (by omega) (by omega) (by omega)) (E _ (by omega) (by omega) (by omega) (by omega) (by omega) (by omega))⟩, cHist_of g (e2 8 (by omega)) (fun o h1 h2 => E o (by omega) (by omega) (by omega) (by omega) (by omega) (by omega)) (E _ (by omega) (by omega) (by omega) (by omega) (by omega) (by omega)), cAsk_of i (E _ (by omega) (by omega) (by omega) (by omega) (by omega) (by omega)) (E _ (by omega) (by omega) (by omega) (by omega) (by omega) (by omega)) (e2 11 (by omega)) (E _ (by omega) (by omega) (by omega) (by omega) (by omega) (by omega)), cSet_of j (by rw [E 165 (by omega) (by omega) (by omega) (by omega) (by omega) (by omega)]) (by rw [E 165 (by omega) (by omega) (by omega) (by omega) (by omega) (by omega)]), hS M N k (fun o h1 h2 => E o (by omega) (by omega) (by omega) (by omega) (by omega) (by omega))⟩
  by_cases hqr : q = r
  · rw [hqr]; exact hrow
  · obtain ⟨o1, o2, o3⟩ := ho q hq hqr
    exact cRow_of (a q hq) o1 o2 o3 (e _ (by omega) (by omega) (by omega) (by omega) (by omega) (by omega) (by omega) (by omega)) (e _ (by omega) (by omega) (by omega) (by omega) (by omega) (by omega) (by omega) (by omega))
/-- the end of a call by a finding on both sides -/
theorem both_found {S : zM → Prop} (hS : sOwn S) {M : zM} {v : Int32} (hI : cAll S M) {P : Int32 → zM → (Int32 → zM → Prop) → Prop}
    (h : ∀ M1 : zM, (∀ o, o ≠ 0 → M1 o = M o) → ∀ Q : Int32 → zM → Prop, wX8_found M1 200 v Q → P (-1000010 - v) M1 Q) :
    wX7_found M 0 v (fun r1 M1 => P r1 M1 (fun r2 M2 => r1 = r2 ∧ cAll S M2)) := by
  intro M1 e1
  refine h M1 (fun o ho => by rw [e1, va_up_ne _ _ ho]) _ ?_
  intro M2 e2
  refine ⟨rfl, all_status (v := v) hS hI ?_⟩
  rw [e2, e1, va_up_ne _ _ (by decide)]
theorem row_cases {M : zM} (h : cRows M) {r : Nat} (hr : r < 8) : (M 201 r = -1000000 ∧ M (2 + 2 * r) 0 = -1) ∨ (¬ M 201 r = -1000000 ∧ ¬ M (2 + 2 * r) 0 = -1 ∧ M 201 r = M (2 + 2 * r) 0 ∧ (0 ≤ (M 201 r).toInt ∧ (M 201 r).toInt ≤ 2) ∧ M 202 r = M (2 + 2 * r) 1 ∧ (0 ≤ (M 202 r).toInt ∧ (M 202 r).toInt ≤ 40) ∧ ∀ k, k < 40 → M 203 (40 * r + k) = M (3 + 2 * r) k) := by
  rcases h r hr with q | ⟨a, b, c, d, e⟩
  · exact Or.inl q
  · refine Or.inr ⟨fun q => ?_, fun q => ?_, a, b, c, d, e⟩
    · rw [q] at b; exact absurd b.1 (by decide)
    · rw [← a] at q; rw [q] at b; exact absurd b.1 (by decide)
section PR
variable {S : zM → Prop}
theorem s_drop (hS : sOwn S) : st_drop (fun M _ => cAll S M) := by
  intro M J a hI
  unfold wX7_drop
  refine p7_isRow ⟨fun h => ?_, fun h => ?_⟩
  · obtain ⟨r, hr, rfl⟩ := zin_lit (n := 7) rfl h
    refine ⟨vp_of (by omega) (by omega), p3_isMissing ?_⟩
    rw [cl_of (by omega), show 0 + 1 + 1 + 2 * r = 2 + 2 * r by omega]
    rcases row_cases hI.1 (show r < 8 by omega) with ⟨q1, q2⟩ | ⟨q1, q2, q3, q4, q5, q6, q7⟩
    · rw [if_pos q2]
      refine ⟨fun c => absurd c (by decide), fun _ => both_found (P := fun r1 M1 Q => wX8_drop M1 200 (nI r) Q) hS hI ?_⟩
      intro M1 e Q hQ
      unfold wX8_drop
      refine p8_isRow ⟨fun _ => p8_isMissing (by omega) ?_, fun c => absurd c h⟩
      rw [e 201 (by decide), if_pos q1]
      exact ⟨fun c => absurd c (by decide), fun _ => hQ⟩
    · rw [if_neg q2]
      refine ⟨fun _ => ⟨vp_of (by omega) (by omega), ?_⟩, fun c => absurd rfl c⟩
      intro M3 e3 M4 e4 M5 e5
      have f4 : ∀ o, o ≠ 2 + 2 * r → M4 o = M o := fun o ho => by rw [e4, va_up_ne _ _ ho, e3, va_up_ne _ _ ho]
      have f5 : ∀ o, o ≠ 0 → o ≠ 2 + 2 * r → M5 o = M o := fun o h0 ho => by rw [e5, va_up_ne _ _ h0, f4 o ho]
      have g0 : M5 (2 + 2 * r) 0 = -1 := by
        rw [e5, va_up_ne _ _ (by omega), e4, va_up_self, pk_un (by decide), e3, va_up_self, pk_us]
      unfold wX8_drop
      refine p8_isRow ⟨fun _ => p8_isMissing (by omega) ?_, fun c => absurd c h⟩
      rw [f5 201 (by decide) (by omega), if_neg q1]
      refine ⟨fun _ => ⟨vp_of (by omega) (by omega), ?_⟩, fun c => absurd rfl c⟩
      intro M6 e6
      rw [cl_of (by omega)] at e6
      have f6 : M6 = va_up M5 201 (upd (M 201) r (-1000000)) := e6
      refine ⟨vp_of (by omega) (by omega), ?_⟩
      intro M7 e7
      have g6 : ∀ o, o ≠ 201 → M6 o = M5 o := fun o ho => by rw [f6, va_up_ne _ _ ho]
      have g7 : ∀ o, o ≠ 200 → M7 o = M6 o := fun o ho => by rw [e7, va_up_ne _ _ ho]
      have g : ∀ o, o ≠ 0 → o ≠ 200 → o ≠ 2 + 2 * r → o ≠ 201 → M7 o = M o := fun o h1 h2 h3 h4 => by rw [g7 o h2, g6 o h4, f5 o h1 h3]
      refine ⟨?_, all_row hS hI (show r < 8 by omega) (fun o h1 h2 h3 _ h5 _ _ _ => g o h1 h2 h3 h5) ?_ ?_ ?_ ?_⟩
      · show M (2 + 2 * r) 1 = M6 (200 + 2) (nI r).toNatClampNeg
        rw [cl_of (by omega), g6 202 (by decide), f5 202 (by decide) (by omega), q5]
      · intro k hk
        rw [e7, va_up_self, pk_un hk, g6 200 (by decide), f5 200 (by decide) (by omega)]
      · rw [e7, va_up_self, pk_us, va_up_ne _ _ (by decide), g6 0 (by decide), e5, va_up_self, pk_us]
      · left
        refine ⟨?_, ?_⟩
        · rw [g7 201 (by decide), f6, va_up_self, pk_us]
        · rw [g7 _ (by omega), g6 _ (by omega)]; exact g0
      · intro q hq hqr
        refine ⟨?_, by rw [g 202 (by decide) (by decide) (by omega) (by decide)], fun k _ => by rw [g 203 (by decide) (by decide) (by omega) (by decide)]⟩
        rw [g7 201 (by decide), f6, va_up_self, pk_un hqr]
  · unfold wX8_drop
    exact p8_isRow ⟨fun c => absurd h c, fun _ => ⟨rfl, hI⟩⟩
end PR
