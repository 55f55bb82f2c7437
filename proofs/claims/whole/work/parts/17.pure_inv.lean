/-! PURE: what ties the class and the reference, between two calls -/
/-- the number of pegs of a rail, as a natural number -/
def rn (M : zM) (o : Nat) : Nat := (M o 0).toNatClampNeg
/-- a rail's numbers are as they may be -/
def rok (M : zM) (o : Nat) : Prop := ∃ n : Nat, M o 0 = nI n ∧ 3 ≤ n ∧ n ≤ 12 ∧ (0 ≤ (M o 1).toInt ∧ (M o 1).toInt ≤ 999) ∧ ∀ k, k < n → (1 ≤ (M (o + 1) k).toInt ∧ (M (o + 1) k).toInt ≤ 5) ∧ (-999 ≤ (M (o + 2) k).toInt ∧ (M (o + 2) k).toInt ≤ 999) ∧ (0 ≤ (M (o + 3) k).toInt ∧ (M (o + 3) k).toInt ≤ 3) ∧ (-3 ≤ (M (o + 4) k).toInt ∧ (M (o + 4) k).toInt ≤ 3)
/-- a rail of the class and one of the reference, in a row from b on, are the same -/
def rel (M : zM) (o : Nat) (w : Nat → Int32) (b : Nat) : Prop := w b = M o 0 ∧ w (b + 1) = M o 1 ∧ ∀ k, k < rn M o → w (b + 2 + 4 * k) = M (o + 1) k ∧ w (b + 3 + 4 * k) = M (o + 2) k ∧ w (b + 4 + 4 * k) = M (o + 3) k ∧ w (b + 5 + 4 * k) = M (o + 4) k
def cRow (M : zM) (r : Nat) : Prop := (M 201 r = -1000000 ∧ M (2 + 2 * r) 0 = -1) ∨ (M 201 r = M (2 + 2 * r) 0 ∧ (0 ≤ (M 201 r).toInt ∧ (M 201 r).toInt ≤ 2) ∧ M 202 r = M (2 + 2 * r) 1 ∧ (0 ≤ (M 202 r).toInt ∧ (M 202 r).toInt ≤ 40) ∧ ∀ k, k < 40 → M 203 (40 * r + k) = M (3 + 2 * r) k)
def cRows (M : zM) : Prop := ∀ r, r < 8 → cRow M r
def cTape (M : zM) : Prop := M 18 0 = M 200 1 ∧ M 18 1 = M 200 2 ∧ (0 ≤ (M 18 0).toInt ∧ (M 18 0).toInt ≤ 120) ∧ ∀ k : Nat, k < 120 → (k : Int) < (M 18 0).toInt → M 19 k = M 205 k ∧ 0 ≤ (M 19 k).toInt ∧ (M 19 k).toInt ≤ 255
def cRail (M : zM) : Prop := rel M 20 (M 206) 0 ∧ (M 20 0 = 0 ∨ rok M 20)
def cImg (M : zM) (k : Nat) : Prop := (M 211 k = 0 ∧ M (31 + 5 * k) 0 = 0) ∨ (¬ M 211 k = 0 ∧ rok M (31 + 5 * k) ∧ rel M (31 + 5 * k) (M 210) (50 * k))
def cHist (M : zM) : Prop := M 41 0 = M 200 8 ∧ ∃ h x : Nat, M 41 0 = nI h ∧ M 41 1 = nI x ∧ h ≤ 24 ∧ x < 24 ∧ ∀ j, j < h → rok M (43 + 5 * ((x + 24 - h + j) % 24)) ∧ rel M (43 + 5 * ((x + 24 - h + j) % 24)) (M 209) (50 * j)
def cAsk (M : zM) : Prop := M 163 0 = M 200 11 ∧ ∃ t : Nat, M 163 0 = nI t ∧ t ≤ 16 ∧ ∀ k, k < t → M 164 k = M 214 k
def cSet (M : zM) : Prop := (M 165 1 = 0 ∧ M 165 2 = 1) ∨ (M 165 1 = 1 ∧ M 165 2 = 0)
theorem cTape_of {M N : zM} (h : cTape M) (h18 : N 18 = M 18) (h19 : N 19 = M 19) (h1 : N 200 1 = M 200 1) (h2 : N 200 2 = M 200 2) (h5 : N 205 = M 205) : cTape N := by
  unfold cTape at *; rw [h18, h19, h1, h2, h5]; exact h
theorem rn_of {M N : zM} {o : Nat} (h : N o = M o) : rn N o = rn M o := by unfold rn; rw [h]
theorem rok_of {M N : zM} {o : Nat} (h : rok M o) (h0 : N o = M o) (h1 : N (o + 1) = M (o + 1)) (h2 : N (o + 2) = M (o + 2)) (h3 : N (o + 3) = M (o + 3)) (h4 : N (o + 4) = M (o + 4)) : rok N o := by
  unfold rok at *; rw [h0, h1, h2, h3, h4]; exact h
theorem rel_of {M N : zM} {o b : Nat} {w : Nat → Int32} (h : rel M o w b) (h0 : N o = M o) (h1 : N (o + 1) = M (o + 1)) (h2 : N (o + 2) = M (o + 2)) (h3 : N (o + 3) = M (o + 3)) (h4 : N (o + 4) = M (o + 4)) : rel N o w b := by
  unfold rel at *; rw [rn_of h0, h0, h1, h2, h3, h4]; exact h
theorem cRail_of {M N : zM} (h : cRail M) (h0 : N 20 = M 20) (h1 : N 21 = M 21) (h2 : N 22 = M 22) (h3 : N 23 = M 23) (h4 : N 24 = M 24) (h5 : N 206 = M 206) : cRail N := by
  unfold cRail at *
  rw [h5]
  refine ⟨rel_of h.1 h0 h1 h2 h3 h4, ?_⟩
  rcases h.2 with q | q
  · left; rw [h0]; exact q
  · right; exact rok_of q h0 h1 h2 h3 h4
theorem cRow_of {M N : zM} {r : Nat} (h : cRow M r) (h1 : N 201 r = M 201 r) (h2 : N 202 r = M 202 r) (h3 : ∀ k, k < 40 → N 203 (40 * r + k) = M 203 (40 * r + k)) (h4 : N (2 + 2 * r) = M (2 + 2 * r)) (h5 : N (3 + 2 * r) = M (3 + 2 * r)) : cRow N r := by
  unfold cRow at *
  rw [h1, h2, h4, h5]
  rcases h with h | ⟨a, b, c, d, e⟩
  · exact Or.inl h
  · exact Or.inr ⟨a, b, c, d, fun k hk => by rw [h3 k hk]; exact e k hk⟩
theorem cImg_of {M N : zM} {k : Nat} (h : cImg M k) (h0 : N 211 k = M 211 k) (ho : ∀ j, j < 5 → N (31 + 5 * k + j) = M (31 + 5 * k + j)) (h2 : N 210 = M 210) : cImg N k := by
  unfold cImg at *
  have e0 := ho 0 (by omega)
  rw [Nat.add_zero] at e0
  rw [h0, h2, e0]
  rcases h with h | ⟨a, b, c⟩
  · exact Or.inl h
  · exact Or.inr ⟨a, rok_of b e0 (ho 1 (by omega)) (ho 2 (by omega)) (ho 3 (by omega)) (ho 4 (by omega)), rel_of c e0 (ho 1 (by omega)) (ho 2 (by omega)) (ho 3 (by omega)) (ho 4 (by omega))⟩
theorem cHist_of {M N : zM} (h : cHist M) (h0 : N 200 8 = M 200 8) (ho : ∀ o, 41 ≤ o → o < 163 → N o = M o) (h2 : N 209 = M 209) : cHist N := by
  unfold cHist at *
  obtain ⟨a, hh, x, b, c, d, e, f⟩ := h
  rw [h0, h2, ho 41 (by omega) (by omega)]
  refine ⟨a, hh, x, b, c, d, e, fun j hj => ?_⟩
  obtain ⟨f1, f2⟩ := f j hj
  have hm : (x + 24 - hh + j) % 24 < 24 := Nat.mod_lt _ (by omega)
  exact ⟨rok_of f1 (ho _ (by omega) (by omega)) (ho _ (by omega) (by omega)) (ho _ (by omega) (by omega)) (ho _ (by omega) (by omega)) (ho _ (by omega) (by omega)), rel_of f2 (ho _ (by omega) (by omega)) (ho _ (by omega) (by omega)) (ho _ (by omega) (by omega)) (ho _ (by omega) (by omega)) (ho _ (by omega) (by omega))⟩
theorem cAsk_of {M N : zM} (h : cAsk M) (h0 : N 163 = M 163) (h1 : N 164 = M 164) (h2 : N 200 11 = M 200 11) (h3 : N 214 = M 214) : cAsk N := by
  unfold cAsk at *; rw [h0, h1, h2, h3]; exact h
theorem cSet_of {M N : zM} (h : cSet M) (h0 : N 165 1 = M 165 1) (h1 : N 165 2 = M 165 2) : cSet N := by
  unfold cSet at *; rw [h0, h1]; exact h
/-- all but what best() keeps, which S says -/
def cAll (S : zM → Prop) (M : zM) : Prop := cRows M ∧ M 0 0 = M 200 0 ∧ cTape M ∧ cRail M ∧ (cImg M 0 ∧ cImg M 1) ∧ cHist M ∧ cAsk M ∧ cSet M ∧ S M
/-- S hangs on the search's own roles alone -/
def sOwn (S : zM → Prop) : Prop := ∀ M N : zM, S M → (∀ o, 168 ≤ o → o < 176 → N o = M o) → S N
/-- both sides note a finding (or none) -/
theorem all_status {S : zM → Prop} (hS : sOwn S) {M N : zM} {v : Int32} (h : cAll S M) (h0 : N = va_up (va_up M 0 (upd (M 0) 0 v)) 200 (upd (M 200) 0 v)) : cAll S N := by
  have e : ∀ o, o ≠ 0 → o ≠ 200 → N o = M o := fun o a b => by rw [h0, va_up_ne _ _ b, va_up_ne _ _ a]
  have e2 : ∀ k, k ≠ 0 → N 200 k = M 200 k := fun k hk => by rw [h0, va_up_self]; exact pk_un hk
  obtain ⟨a, b, c, d, ⟨f0, f1⟩, g, i, j, k⟩ := h
  refine ⟨fun r hr => cRow_of (a r hr) (by rw [e 201 (by omega) (by omega)]) (by rw [e 202 (by omega) (by omega)]) (fun k _ => by rw [e 203 (by omega) (by omega)]) (e _ (by omega) (by omega)) (e _ (by omega) (by omega)), ?_, cTape_of c (e _ (by omega) (by omega)) (e _ (by omega) (by omega)) (e2 1 (by omega)) (e2 2 (by omega)) (e _ (by omega) (by omega)), cRail_of d (e _ (by omega) (by omega)) (e _ (by omega) (by omega)) (e _ (by omega) (by omega)) (e _ (by omega) (by omega)) (e _ (by omega) (by omega)) (e _ (by omega) (by omega)), ⟨cImg_of f0 (by rw [e 211 (by omega) (by omega)]) (fun j hj => e _ (by omega) (by omega)) (e _ (by omega) (by omega)), cImg_of f1 (by rw [e 211 (by omega) (by omega)]) (fun j hj => e _ (by omega) (by omega)) (e _ (by omega) (by omega))⟩, cHist_of g (e2 8 (by omega)) (fun o h1 h2 => e o (by omega) (by omega)) (e _ (by omega) (by omega)), cAsk_of i (e _ (by omega) (by omega)) (e _ (by omega) (by omega)) (e2 11 (by omega)) (e _ (by omega) (by omega)), cSet_of j (by rw [e 165 (by omega) (by omega)]) (by rw [e 165 (by omega) (by omega)]), hS M N k (fun o h1 h2 => e o (by omega) (by omega))⟩
  rw [h0, va_up_self, va_up_ne _ _ (by decide), va_up_self]
  simp [upd]
