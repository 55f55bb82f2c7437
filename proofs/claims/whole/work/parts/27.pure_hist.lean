/-! PURE: acts that are kept, on both sides -/
/-- the rail at o' of N is as the one at o of M -/
def same (M : zM) (o : Nat) (N : zM) (o' n : Nat) : Prop := N o' 0 = M o 0 ∧ N o' 1 = M o 1 ∧ ∀ k, k < n → N (o' + 1) k = M (o + 1) k ∧ N (o' + 2) k = M (o + 2) k ∧ N (o' + 3) k = M (o + 3) k ∧ N (o' + 4) k = M (o + 4) k
theorem same_rok {M N : zM} {o o' n : Nat} (h : same M o N o' n) (hn : rn M o = n) (hr : rok M o) : rok N o' := by
  obtain ⟨-, m, e, h3, h12, hm⟩ := rok_rn hr
  obtain ⟨m', e', h3', h12', hw, hk⟩ := hr
  have : m' = n := by
    have : nI m = nI m' := by rw [← e, e']
    rw [pn_eq, pn_n (by omega), pn_n (by omega)] at this; omega
  subst this
  refine ⟨m', h.1.trans e', h3', h12', by rw [h.2.1]; exact hw, fun k hk2 => ?_⟩
  obtain ⟨a, b, c, d⟩ := h.2.2 k hk2
  rw [a, b, c, d]
  exact hk k hk2
theorem same_rel {M N : zM} {o o' n b : Nat} {w : Nat → Int32} (h : same M o N o' n) (hn : rn M o = n) (hr : rel M o w b) : rel N o' w b := by
  refine ⟨hr.1.trans h.1.symm, hr.2.1.trans h.2.1.symm, fun k hk => ?_⟩
  have r : rn N o' = n := by unfold rn; rw [h.1]; exact hn
  rw [r] at hk
  obtain ⟨a, b, c, d⟩ := h.2.2 k hk
  rw [a, b, c, d]
  exact hr.2.2 k (by omega)
theorem same_id {M N : zM} {o n : Nat} (h0 : N o = M o) (h1 : N (o + 1) = M (o + 1)) (h2 : N (o + 2) = M (o + 2)) (h3 : N (o + 3) = M (o + 3)) (h4 : N (o + 4) = M (o + 4)) : same M o N o n := by
  unfold same; rw [h0, h1, h2, h3, h4]; exact ⟨rfl, rfl, fun _ _ => ⟨rfl, rfl, rfl, rfl⟩⟩
theorem hist_push {M K A B N : zM} {n h x : Nat} (hh : M 41 0 = nI h) (hx : M 41 1 = nI x) (h24 : h ≤ 24) (x24 : x < 24)
    (hs : ∀ j, j < h → rok M (43 + 5 * ((x + 24 - h + j) % 24)) ∧ rel M (43 + 5 * ((x + 24 - h + j) % 24)) (M 209) (50 * j))
    (hr : rel M 20 (M 206) 0) (hok : rok M 20) (hn : rn M 20 = n) (hk : keepd M K n h x) (hA : ∀ o, 41 ≤ o → N o = K o ∨ 163 ≤ o) (hn2 : noted A B h) (a206 : A 206 = M 206) (a209 : A 209 = M 209)
    (b209 : N 209 = B 209) (b8 : N 200 8 = B 200 8) : cHist N := by
  obtain ⟨k1, k2, k3, k4⟩ := hk
  obtain ⟨-, -, n3, n4⟩ := hn2
  have hN : ∀ o, 41 ≤ o → o < 163 → N o = K o := fun o h1 h2 => (hA o h1).elim id (fun q => by omega)
  have old : ∀ s j j0, s < 24 → s ≠ x → rok M (43 + 5 * s) → rel M (43 + 5 * s) (M 209) (50 * j0) → (∀ i, i < 50 → B 209 (50 * j + i) = M 209 (50 * j0 + i)) → rok N (43 + 5 * s) ∧ rel N (43 + 5 * s) (N 209) (50 * j) := by
    intro s j j0 hs hsx q1 q2 q3
    have e : ∀ y, 43 + 5 * s ≤ y → y ≤ 43 + 5 * s + 4 → N y = M y := fun y a b => by rw [hN y (by omega) (by omega), k4 y (by omega) (by omega)]
    refine ⟨rok_of q1 (e _ (by omega) (by omega)) (e _ (by omega) (by omega)) (e _ (by omega) (by omega)) (e _ (by omega) (by omega)) (e _ (by omega) (by omega)), ?_⟩
    refine rel_w (w := M 209) (b := 50 * j0) (rel_of q2 (e _ (by omega) (by omega)) (e _ (by omega) (by omega)) (e _ (by omega) (by omega)) (e _ (by omega) (by omega)) (e _ (by omega) (by omega))) ?_ (fun i hi => by rw [b209]; exact q3 i hi)
    rw [rn_of (e _ (by omega) (by omega))]
    exact (rok_rn q1).1
  have new : ∀ j, (∀ i, i < 50 → B 209 (50 * j + i) = M 206 i) → rok N (43 + 5 * x) ∧ rel N (43 + 5 * x) (N 209) (50 * j) := by
    intro j q
    have e : ∀ y, 43 + 5 * x ≤ y → y ≤ 43 + 5 * x + 4 → N y = K y := fun y a b => hN y (by omega) (by omega)
    have sm : same M 20 N (43 + 5 * x) n := by
      unfold same
      rw [e _ (by omega) (by omega), e _ (by omega) (by omega), e _ (by omega) (by omega), e _ (by omega) (by omega), e _ (by omega) (by omega)]
      exact k3
    refine ⟨same_rok sm hn hok, rel_w (w := M 206) (b := 0) (same_rel sm hn hr) ?_ (fun i hi => by rw [b209, Nat.zero_add]; exact q i hi)⟩
    have : rn N (43 + 5 * x) = n := by unfold rn; rw [sm.1]; exact hn
    rw [this, ← hn]
    exact (rok_rn hok).1
  refine ⟨by rw [b8, n3, hN 41 (by omega) (by omega)]; exact k1, if h < 24 then h + 1 else 24, (x + 1) % 24, by rw [hN 41 (by omega) (by omega)]; exact k1, by rw [hN 41 (by omega) (by omega)]; exact k2, by split <;> omega, Nat.mod_lt _ (by omega), ?_⟩
  by_cases c : h < 24
  · rw [if_pos c]
    intro j hj
    by_cases cj : j = h
    · subst cj
      rw [show ((x + 1) % 24 + 24 - (j + 1) + j) % 24 = x by omega]
      exact new j (fun i hi => by rw [((n4 j i hi).1 c).2 rfl, a206])
    · rw [show ((x + 1) % 24 + 24 - (h + 1) + j) % 24 = (x + 24 - h + j) % 24 by omega]
      obtain ⟨s1, s2⟩ := hs j (by omega)
      exact old _ j j (Nat.mod_lt _ (by omega)) (by omega) s1 s2 (fun i hi => by rw [((n4 j i hi).1 c).1 (by omega), a209])
  · have h4 : h = 24 := by omega
    rw [if_neg c]
    intro j hj
    by_cases cj : j = 23
    · subst cj
      rw [show ((x + 1) % 24 + 24 - 24 + 23) % 24 = x by omega]
      exact new 23 (fun i hi => by rw [((n4 23 i hi).2 h4).2 rfl, a206])
    · have := hs (j + 1) (by omega)
      rw [show (x + 24 - h + (j + 1)) % 24 = ((x + 1) % 24 + 24 - 24 + j) % 24 by omega] at this
      exact old _ j (j + 1) (Nat.mod_lt _ (by omega)) (by omega) this.1 this.2 (fun i hi => by rw [((n4 j i hi).2 h4).1 (by omega), a209])
/-- what a call leaves as it was, but for the rail, the acts and what is only scratch -/
def zk (o : Nat) : Prop := (o < 20 ∨ 30 ≤ o) ∧ (o < 41 ∨ 163 ≤ o) ∧ (o < 165 ∨ 168 ≤ o) ∧ o ≠ 200 ∧ o ≠ 204 ∧ o ≠ 206 ∧ o ≠ 207 ∧ o ≠ 208 ∧ o ≠ 209 ∧ o ≠ 212 ∧ o ≠ 213
theorem all_fr {S : zM → Prop} (hS : sOwn S) {M N : zM} (h : cAll S M) (e : ∀ o, zk o → N o = M o) (e2 : N 200 0 = M 200 0 ∧ N 200 1 = M 200 1 ∧ N 200 2 = M 200 2 ∧ N 200 11 = M 200 11) (e3 : N 165 1 = M 165 1 ∧ N 165 2 = M 165 2) (hr : cRail N) (hh : cHist N) : cAll S N := by
  obtain ⟨a, b, c, d, ⟨f0, f1⟩, g, i, j, k⟩ := h
  have E : ∀ o, zk o → N o = M o := e
  refine ⟨fun r hr => cRow_of (a r hr) (by rw [E 201 (by unfold zk; omega)]) (by rw [E 202 (by unfold zk; omega)]) (fun k _ => by rw [E 203 (by unfold zk; omega)]) (E _ (by unfold zk; omega)) (E _ (by unfold zk; omega)), by rw [E 0 (by unfold zk; omega), e2.1]; exact b, cTape_of c (E _ (by unfold zk; omega)) (E _ (by unfold zk; omega)) e2.2.1 e2.2.2.1 (E _ (by unfold zk; omega)), hr, ⟨cImg_of f0 (by rw [E 211 (by unfold zk; omega)]) (fun j hj => E _ (by unfold zk; omega)) (E _ (by unfold zk; omega)), cImg_of f1 (by rw [E 211 (by unfold zk; omega)]) (fun j hj => E _ (by unfold zk; omega)) (E _ (by unfold zk; omega))⟩, hh, cAsk_of i (E _ (by unfold zk; omega)) (E _ (by unfold zk; omega)) e2.2.2.2 (E _ (by unfold zk; omega)), cSet_of j e3.1 e3.2, hS M N k (fun o h1 h2 => E o (by unfold zk; omega))⟩
/-- the frame of an act -/
theorem all_act {S : zM → Prop} (hS : sOwn S) {M K A B N : zM} {n h x : Nat} (hI : cAll S M) (hh : M 41 0 = nI h) (hx : M 41 1 = nI x) (h24 : h ≤ 24) (x24 : x < 24)
    (hs : ∀ j, j < h → rok M (43 + 5 * ((x + 24 - h + j) % 24)) ∧ rel M (43 + 5 * ((x + 24 - h + j) % 24)) (M 209) (50 * j))
    (hok : rok M 20) (hn : rn M 20 = n) (hk : keepd M K n h x) (hA : ∀ o, o < 20 ∨ 24 < o → A o = K o) (hn2 : noted A B h) (hN : ∀ o, o ≠ 206 → N o = B o) (hr : cRail N) : cAll S N := by
  have kk : ∀ y, y ≠ 41 → (y < 43 ∨ 163 ≤ y) → K y = M y := fun y h1 h2 => hk.2.2.2 y h1 (by omega)
  refine all_fr hS hI (fun o ho => ?_) ?_ ?_ hr ?_
  · unfold zk at ho
    rw [hN o (by omega), hn2.1 o (by omega) (by omega), hA o (by omega), kk o (by omega) (by omega)]
  · have e : ∀ k, k ≠ 8 → N 200 k = M 200 k := fun k hk2 => by rw [hN 200 (by decide), hn2.2.1 k hk2, hA 200 (by omega), kk 200 (by decide) (by omega)]
    exact ⟨e 0 (by decide), e 1 (by decide), e 2 (by decide), e 11 (by decide)⟩
  · rw [hN 165 (by decide), hn2.1 165 (by decide) (by decide), hA 165 (by omega), kk 165 (by decide) (by omega)]; exact ⟨rfl, rfl⟩
  · refine hist_push (A := A) (B := B) hh hx h24 x24 hs hI.2.2.2.1.1 hok hn hk (fun o ho => ?_) hn2 ?_ ?_ ?_ ?_
    · by_cases c : o < 163
      · left; rw [hN o (by omega), hn2.1 o (by omega) (by omega), hA o (by omega)]
      · right; omega
    · rw [hA 206 (by omega), kk 206 (by decide) (by omega)]
    · rw [hA 209 (by omega), kk 209 (by decide) (by omega)]
    · rw [hN 209 (by decide)]
    · rw [hN 200 (by decide)]
/-- one number of the rail is put -/
def rng (f : Nat) (v : Int) : Prop := (f = 0 → 1 ≤ v ∧ v ≤ 5) ∧ (f = 1 → -999 ≤ v ∧ v ≤ 999) ∧ (f = 2 → 0 ≤ v ∧ v ≤ 3) ∧ (f = 3 → -3 ≤ v ∧ v ≤ 3)
theorem rel_iff {M : zM} {o n : Nat} {w : Nat → Int32} (hn : rn M o = n) : rel M o w 0 ↔ (w 0 = M o 0 ∧ w 1 = M o 1 ∧ ∀ k, k < n → ∀ f, f < 4 → w (2 + f + 4 * k) = M (o + 1 + f) k) := by
  unfold rel
  rw [hn, Nat.zero_add, Nat.zero_add, Nat.zero_add, Nat.zero_add, Nat.zero_add]
  refine ⟨fun ⟨a, b, c⟩ => ⟨a, b, fun k hk f hf => ?_⟩, fun ⟨a, b, c⟩ => ⟨a, b, fun k hk => ⟨c k hk 0 (by omega), c k hk 1 (by omega), c k hk 2 (by omega), c k hk 3 (by omega)⟩⟩⟩
  obtain ⟨c0, c1, c2, c3⟩ := c k hk
  match f, hf with
  | 0, _ => exact c0
  | 1, _ => exact c1
  | 2, _ => exact c2
  | 3, _ => exact c3
theorem rel_put {M N : zM} {o n k f : Nat} {w w' : Nat → Int32} {v : Int32} (h : rel M o w 0) (hn : rn M o = n) (hf : f < 4) (h0 : N o = M o) (h1 : N (o + 1 + f) = upd (M (o + 1 + f)) k v) (h2 : ∀ g, g < 4 → g ≠ f → N (o + 1 + g) = M (o + 1 + g)) (hw : w' = upd w (2 + f + 4 * k) v) : rel N o w' 0 := by
  obtain ⟨a, b, c⟩ := (rel_iff hn).1 h
  refine (rel_iff ((rn_of h0).trans hn)).2 ⟨?_, ?_, fun j hj g hg => ?_⟩
  · rw [hw, pk_un (by omega), h0]; exact a
  · rw [hw, pk_un (by omega), h0]; exact b
  · rw [hw]
    by_cases cg : g = f
    · subst cg
      rw [h1]
      by_cases cj : j = k
      · subst cj; rw [pk_us, pk_us]
      · rw [pk_un (by omega), pk_un cj]; exact c j hj g hg
    · rw [pk_un (by omega), h2 g hg cg]; exact c j hj g hg
theorem rok_put {M N : zM} {o k f : Nat} {v : Int32} (h : rok M o) (hf : f < 4) (h0 : N o = M o) (h1 : N (o + 1 + f) = upd (M (o + 1 + f)) k v) (h2 : ∀ g, g < 4 → g ≠ f → N (o + 1 + g) = M (o + 1 + g)) (hv : rng f v.toInt) : rok N o := by
  obtain ⟨n, e, h3, h12, hw, hk⟩ := h
  refine ⟨n, by rw [h0]; exact e, h3, h12, by rw [h0]; exact hw, fun j hj => ?_⟩
  obtain ⟨a, b, c, d⟩ := hk j hj
  obtain ⟨r0, r1, r2, r3⟩ := hv
  have key : ∀ g, g < 4 → (N (o + 1 + g) j = M (o + 1 + g) j) ∨ (g = f ∧ N (o + 1 + g) j = v) := by
    intro g hg
    by_cases cg : g = f
    · subst cg
      rw [h1]
      by_cases cj : j = k
      · right; subst cj; exact ⟨rfl, pk_us⟩
      · left; exact pk_un cj
    · left; rw [h2 g hg cg]
  refine ⟨?_, ?_, ?_, ?_⟩
  · rcases key 0 (by omega) with q | ⟨q1, q2⟩
    · rw [show o + 1 = o + 1 + 0 from rfl, q]; exact a
    · rw [show o + 1 = o + 1 + 0 from rfl, q2]; exact r0 q1.symm
  · rcases key 1 (by omega) with q | ⟨q1, q2⟩
    · rw [show o + 2 = o + 1 + 1 from rfl, q]; exact b
    · rw [show o + 2 = o + 1 + 1 from rfl, q2]; exact r1 q1.symm
  · rcases key 2 (by omega) with q | ⟨q1, q2⟩
    · rw [show o + 3 = o + 1 + 2 from rfl, q]; exact c
    · rw [show o + 3 = o + 1 + 2 from rfl, q2]; exact r2 q1.symm
  · rcases key 3 (by omega) with q | ⟨q1, q2⟩
    · rw [show o + 4 = o + 1 + 3 from rfl, q]; exact d
    · rw [show o + 4 = o + 1 + 3 from rfl, q2]; exact r3 q1.symm
