/-! PURE: how large a step is; gang() -/
theorem upd_2 (f : Nat → Int32) (k : Nat) (a b : Int32) : upd (upd f k a) k b = upd f k b := by
  funext j
  by_cases q : j = k
  · rw [q, pk_us, pk_us]
  · rw [pk_un q, pk_un q, pk_un q]
theorem upd_id (f : Nat → Int32) (k : Nat) : upd f k (f k) = f := by
  funext j
  by_cases q : j = k
  · rw [q, pk_us]
  · rw [pk_un q]
theorem slI_rng {n : Nat} {S : Nat → Int32} (hs : ∀ k, k < n → -3 ≤ (S k).toInt ∧ (S k).toInt ≤ 3) (i : Int) : -3 ≤ (slI n S i).toInt ∧ (slI n S i).toInt ≤ 3 := by
  unfold slI
  by_cases c : 0 ≤ i ∧ i < n
  · rw [if_pos c]; exact hs _ (by omega)
  · rw [if_neg c, t0]; omega
theorem fNow_int {n k : Nat} {V S : Nat → Int32} (hk : k < n) (hv : ∀ k, k < n → -999 ≤ (V k).toInt ∧ (V k).toInt ≤ 999) (hs : ∀ k, k < n → -3 ≤ (S k).toInt ∧ (S k).toInt ≤ 3) : (fNow n V S k).toInt = (V k).toInt + 2 * (S k).toInt - (slI n S ((k : Int) - 1)).toInt - (slI n S ((k : Int) + 1)).toInt := by
  have a1 := slI_rng hs ((k : Int) - 1)
  have a2 := slI_rng hs ((k : Int) + 1)
  have a3 := hv k hk
  have a4 := hs k hk
  have t2 : (2 : Int32).toInt = 2 := rfl
  unfold fNow
  have e1 : (2 * S k).toInt = 2 * (S k).toInt := by rw [pn_mul (by rw [t2]; omega) (by rw [t2]; omega), t2]
  have e2 : (V k + 2 * S k).toInt = (V k).toInt + 2 * (S k).toInt := by rw [pn_add (by omega) (by omega), e1]
  have e3 : (V k + 2 * S k - slI n S ((k : Int) - 1)).toInt = (V k).toInt + 2 * (S k).toInt - (slI n S ((k : Int) - 1)).toInt := by rw [pn_sub (by omega) (by omega), e2]
  rw [pn_sub (by omega) (by omega), e3]
theorem fNow_rng {n k : Nat} {V S : Nat → Int32} (hk : k < n) (hv : ∀ k, k < n → -999 ≤ (V k).toInt ∧ (V k).toInt ≤ 999) (hs : ∀ k, k < n → -3 ≤ (S k).toInt ∧ (S k).toInt ≤ 3) : -1011 ≤ (fNow n V S k).toInt ∧ (fNow n V S k).toInt ≤ 1011 := by
  rw [fNow_int hk hv hs]
  have a1 := slI_rng hs ((k : Int) - 1)
  have a2 := slI_rng hs ((k : Int) + 1)
  have a3 := hv k hk
  have a4 := hs k hk
  omega
theorem zabs_int {x : Int32} (h : -2147483648 < x.toInt) : (zabs x).toInt = if 0 ≤ x.toInt then x.toInt else -x.toInt := by
  have := pn_rng x
  unfold zabs
  by_cases c : 0 ≤ x
  · rw [if_pos c]; rw [pn_le, t0] at c; rw [if_pos c]
  · rw [if_neg c]; rw [pn_le, t0] at c; rw [if_neg c, pn_sub (by rw [t0]; omega) (by rw [t0]; omega), t0]; omega
theorem fStep_rng {n k : Nat} {K V S : Nat → Int32} (hk : k + 1 < n) (hv : ∀ k, k < n → -999 ≤ (V k).toInt ∧ (V k).toInt ≤ 999) (hs : ∀ k, k < n → -3 ≤ (S k).toInt ∧ (S k).toInt ≤ 3) : 0 ≤ (fStep n K V S k).toInt ∧ (fStep n K V S k).toInt ≤ 2022 := by
  unfold fStep
  by_cases c : K k = 3 ∨ K (k + 1) = 3
  · rw [if_pos c, t0]; omega
  · rw [if_neg c]
    have b1 := fNow_rng (V := V) (S := S) (show k < n by omega) hv hs
    have b2 := fNow_rng (V := V) (S := S) hk hv hs
    have e : (fNow n V S k - fNow n V S (k + 1)).toInt = (fNow n V S k).toInt - (fNow n V S (k + 1)).toInt := pn_sub (by omega) (by omega)
    rw [zabs_int (by omega), e]
    split <;> omega
def gpick (g : Int32 → Int32) (s : Int32 × Int32) (v : Int32) : Int32 × Int32 := if s.2 ≤ g v then s else (v, g v)
def gP (g : Int32 → Int32) : Nat → Int32 × Int32
  | 0 => (0, g 0)
  | j + 1 => gpick g (gpick g (gP g j) (-nI (j + 1))) (nI (j + 1))
theorem gpick_1 (g : Int32 → Int32) (s : Int32 × Int32) (v : Int32) : (gpick g s v).1 = s.1 ∨ (gpick g s v).1 = v := by
  unfold gpick; split
  · exact Or.inl rfl
  · exact Or.inr rfl
theorem gP_rng (g : Int32 → Int32) (r : Nat) (h : r ≤ 3) : -3 ≤ (gP g r).1.toInt ∧ (gP g r).1.toInt ≤ 3 := by
  induction r with
  | zero => show -3 ≤ (0 : Int32).toInt ∧ (0 : Int32).toInt ≤ 3; rw [t0]; omega
  | succ r ih =>
    have ih := ih (by omega)
    unfold gP
    have e : (nI (r + 1)).toInt = r + 1 := by rw [pn_n (by omega)]; omega
    have e2 : (-nI (r + 1)).toInt = -((r : Int) + 1) := by rw [Int32.toInt_neg, e]; exact pn_bm (by omega) (by omega)
    rcases gpick_1 g (gpick g (gP g r) (-nI (r + 1))) (nI (r + 1)) with q | q
    · rw [q]
      rcases gpick_1 g (gP g r) (-nI (r + 1)) with q | q
      · rw [q]; exact ih
      · rw [q]; omega
    · rw [q]; omega
/-- the step that is watched, by the slew of a peg -/
def gW (n : Nat) (K V S : Nat → Int32) (k : Nat) (v : Int32) : Int32 := fStep n K V (upd S k v) (k - 1)
theorem gW_lt {n k : Nat} {K V S : Nat → Int32} {v : Int32} (h3 : 3 ≤ n) (hk : k < n) (hv : ∀ k, k < n → -999 ≤ (V k).toInt ∧ (V k).toInt ≤ 999) (hs : ∀ k, k < n → -3 ≤ (S k).toInt ∧ (S k).toInt ≤ 3) (h1 : -3 ≤ v.toInt) (h2 : v.toInt ≤ 3) : 0 ≤ (gW n K V S k v).toInt ∧ (gW n K V S k v).toInt ≤ 2022 := by
  refine fStep_rng (by omega) hv (fun j hj => ?_)
  by_cases q : j = k
  · rw [q, pk_us]; omega
  · rw [pk_un q]; exact hs j hj
theorem ev_by (k : Nat) (h : k ≤ 12) : zmax 0 (nI k - 1) = nI (k - 1) := by
  unfold zmax
  by_cases c : k = 0
  · subst c; decide
  · rw [nm1 (by omega)]
    by_cases d : k = 1
    · subst d; decide
    · rw [if_pos (by rw [pn_lt, t0, pn_n (by omega)]; omega)]
theorem ev_jn {M N : zM} {o n k : Nat} {b f x v : Int32} {C : Int32 → Int32 → Int32 → zM → Prop} (hn : M o 0 = nI n) (h12 : n ≤ 12) (h3 : 3 ≤ n) (hk : k < n) (hN : ∀ y, y ≠ o + 4 → N y = M y) (hN4 : ∀ j, j ≠ k → N (o + 4) j = M (o + 4) j)
    (h : ∀ P : zM, (∀ y, y ≠ o + 4 → P y = M y) → (∀ j, j ≠ k → P (o + 4) j = M (o + 4) j) → C (gpick (gW n (M (o + 1)) (M (o + 2)) (M (o + 4)) k) (b, f) v).1 (gpick (gW n (M (o + 1)) (M (o + 2)) (M (o + 4)) k) (b, f) v).2 (x + 1) P) : jnX2_evenestSlew_65 o (nI k) b f x N C v := by
  unfold jnX2_evenestSlew_65
  refine ⟨vp_of (by omega) (by omega), fun P eP => ?_⟩
  rw [cl_of (by omega)] at eP
  have p4 : P (o + 4) = upd (M (o + 4)) k v := by
    rw [eP, va_up_self]
    funext j
    by_cases q : j = k
    · rw [q, pk_us, pk_us]
    · rw [pk_un q, pk_un q]; exact hN4 j q
  have fP : ∀ y, y ≠ o + 4 → P y = M y := fun y hy => by rw [eP, va_up_ne _ _ hy, hN y hy]
  have gP' := h P fP (fun j hj => by rw [p4, pk_un hj])
  rw [ev_by k (by omega)]
  refine p2_step (by rw [fP o (by omega)]; exact hn) h12 (by omega) ?_
  rw [fP (o + 1) (by omega), fP (o + 2) (by omega), p4]
  show (f ≤ gW n (M (o + 1)) (M (o + 2)) (M (o + 4)) k v → _) ∧ (¬ f ≤ gW n (M (o + 1)) (M (o + 2)) (M (o + 4)) k v → _)
  unfold gpick at gP'
  refine ⟨fun c x17 e17 => ?_, fun c x18 e18 => ?_⟩
  · rw [if_pos c] at gP'; rw [e17]; exact gP'
  · rw [if_neg c] at gP'; rw [e18]; exact gP'
theorem p2_evenest {M : zM} {o n k r : Nat} {Q : Int32 → zM → Prop} (hn : M o 0 = nI n) (h12 : n ≤ 12) (h3 : 3 ≤ n) (hk : k < n) (hb : 0 ≤ (M (o + 3) k).toInt ∧ (M (o + 3) k).toInt ≤ 3) (hr : fReach (M (o + 1)) (M (o + 3)) k = nI r) (r3 : r ≤ 3) (hg : (gW n (M (o + 1)) (M (o + 2)) (M (o + 4)) k 0).toInt ≤ 2022)
    (h : Q (gP (gW n (M (o + 1)) (M (o + 2)) (M (o + 4)) k) r).1 M) : wX2_evenestSlew M o (nI k) Q := by
  unfold wX2_evenestSlew
  refine ⟨vp_of (by omega) (by omega), p2_reach hn h12 hk hb ?_⟩
  rw [hr, cl_of (by omega)]
  have two : (2 : Int32) * nI r + 1 = nI (2 * r + 1) := by rw [show (2 : Int32) = nI 2 from rfl, pk_mul, nI_1]
  have key : ∀ d j, j + d = r → ∀ N : zM, (∀ y, y ≠ o + 4 → N y = M y) → (∀ i, i ≠ k → N (o + 4) i = M (o + 4) i) → lpX2_evenestSlew_36 o (nI k) (nI r) (fun x9 x10 x11 M12 =>
      vp_in (nI k) 12 ∧
      ∀ M13 : zM, M13 = va_up M12 (o + 4) (upd (M12 (o + 4)) k (M (o + 4) k)) →
      Q x9 M13) (2 * d + 1) (gP (gW n (M (o + 1)) (M (o + 2)) (M (o + 4)) k) j).1 (gP (gW n (M (o + 1)) (M (o + 2)) (M (o + 4)) k) j).2 (nI (2 * j + 1)) N := by
    intro d
    induction d with
    | zero =>
      intro j hj N hN hN4
      obtain rfl : j = r := by omega
      unfold lpX2_evenestSlew_36
      rw [two]
      refine ⟨fun _ => ⟨vp_of (by omega) (by omega), fun P eP => ?_⟩, fun c => absurd (nI_le (Nat.le_refl _) (by omega)) c⟩
      have : P = M := by
        funext y
        by_cases q : y = o + 4
        · subst q
          rw [eP, va_up_self]
          funext i
          by_cases q2 : i = k
          · rw [q2, pk_us]
          · rw [pk_un q2]; exact hN4 i q2
        · rw [eP, va_up_ne _ _ q, hN y q]
      rw [this]
      exact h
    | succ d ih =>
      intro j hj N hN hN4
      show lpX2_evenestSlew_36 _ _ _ _ (2 * d + 1 + 1 + 1) _ _ _ _
      unfold lpX2_evenestSlew_36
      rw [two]
      refine ⟨fun c => absurd c (nI_ge (by omega) (by omega)), fun _ => ?_⟩
      rw [show (2 : Int32) = nI 2 from rfl, pk_rem (by omega) (by omega) (by omega), show (2 * j + 1) % 2 = 1 by omega]
      refine ⟨fun c => absurd rfl c, fun _ => ?_⟩
      rw [show (-(nI (2 * j + 1) + 1)) / nI 2 = -nI (j + 1) by
        match j, (show j < 3 by omega) with
        | 0, _ => decide
        | 1, _ => decide
        | 2, _ => decide]
      refine ev_jn hn h12 h3 hk hN hN4 (fun P hP hP4 => ?_)
      unfold lpX2_evenestSlew_36
      rw [two, nI_1]
      refine ⟨fun c => absurd c (nI_ge (by omega) (by omega)), fun _ => ?_⟩
      rw [show (2 : Int32) = nI 2 from rfl, pk_rem (by omega) (by omega) (by omega), show (2 * j + 1 + 1) % 2 = 0 by omega]
      refine ⟨fun _ => ?_, fun c => absurd c (by decide)⟩
      rw [pk_div (by omega) (by omega) (by omega), show (2 * j + 1 + 1) / 2 = j + 1 by omega]
      refine ev_jn hn h12 h3 hk hP hP4 (fun P2 hP2 hP42 => ?_)
      rw [nI_1]
      exact ih (j + 1) (by omega) P2 hP2 hP42
  refine ⟨2 * r + 1 + 1, ?_⟩
  unfold lpX2_evenestSlew_36
  rw [two]
  refine ⟨fun c => absurd c (nI_ge (a := 0) (by omega) (by omega)), fun _ => ⟨fun _ => ?_, fun c => absurd c (by decide)⟩⟩
  rw [show (0 : Int32) / 2 = 0 by decide]
  refine ev_jn hn h12 h3 hk (fun _ _ => rfl) (fun _ _ => rfl) (fun P hP hP4 => ?_)
  have e0 : gpick (gW n (M (o + 1)) (M (o + 2)) (M (o + 4)) k) (0, 2147483647) 0 = gP (gW n (M (o + 1)) (M (o + 2)) (M (o + 4)) k) 0 := by
    unfold gpick
    rw [if_neg (by show ¬ (2147483647 : Int32) ≤ _; rw [pn_le, show (2147483647 : Int32).toInt = 2147483647 from rfl]; omega)]
    rfl
  rw [e0]
  exact key r 0 (by omega) P hP hP4
theorem g8_step {M : zM} {n k : Nat} {W b f v s : Int32} {K V B S : Nat → Int32} {C : Int32 → Int32 → Int32 → zM → Prop} (h12 : n ≤ 12) (h3 : 3 ≤ n) (hk : k < n) (hr : rowOf (M 208) n W K V B (upd S k v)) 
    (h : C (gpick (gW n K V S k) (b, f) v).1 (gpick (gW n K V S k) (b, f) v).2 (s + 2) M) :
    wX8_step M 208 50 (nI (k - 1)) (fun r22 => (f ≤ r22 → jnX8_gangs_103 f s M r22 C b) ∧ (¬ f ≤ r22 → jnX8_gangs_103 f s M r22 C v)) := by
  refine p8_step (by omega) (by omega) hr.1 h12 (by omega) ?_
  rw [fStep_of (by omega) hr.2.2.1 hr.2.2.2.1 hr.2.2.2.2.2]
  show (f ≤ gW n K V S k v → _) ∧ (¬ f ≤ gW n K V S k v → _)
  unfold gpick at h
  refine ⟨fun c => ⟨fun _ x ex => ?_, fun q => absurd c q⟩, fun c => ⟨fun q => absurd q c, fun _ x ex => ?_⟩⟩
  · rw [if_pos c] at h; rw [ex]; exact h
  · rw [if_neg c] at h; rw [ex]; exact h
theorem g8_inner {M : zM} {n k : Nat} {W b f x9 : Int32} {K V B S : Nat → Int32} {C : Int32 → Int32 → Int32 → zM → Prop} (h12 : n ≤ 12) (h3 : 3 ≤ n) (hk : k < n) (hr : ∃ u, rowOf (M 208) n W K V B (upd S k u))
    (h : ∀ N : zM, (∀ x, x ≠ 208 → N x = M x) → (∃ u, rowOf (N 208) n W K V B (upd S k u)) → C (gpick (gW n K V S k) (gpick (gW n K V S k) (b, f) (-1 * x9)) (1 * x9)).1 (gpick (gW n K V S k) (gpick (gW n K V S k) (b, f) (-1 * x9)) (1 * x9)).2 3 N) :
    lpX8_gangs_59 200 (nI (k - 1)) (nI (5 + 4 * k)) x9 C 3 b f (-1) M := by
  obtain ⟨u, hu⟩ := hr
  have one : ∀ (N : zM) (u v : Int32), rowOf (N 208) n W K V B (upd S k u) → rowOf (upd (N 208) (5 + 4 * k) v) n W K V B (upd S k v) := by
    intro N u v q
    have := row_S (k := k) (v := v) q
    rw [upd_2] at this
    exact this
  unfold lpX8_gangs_59
  refine ⟨fun c => absurd c (by decide), fun _ => ⟨vp_of (by omega) (by omega), fun P eP => ?_⟩⟩
  rw [cl_of (by omega)] at eP
  have eP : P = va_up M 208 (upd (M 208) (5 + 4 * k) (-1 * x9)) := eP
  refine g8_step (v := -1 * x9) h12 h3 hk (by rw [eP, va_up_self]; exact one M u _ hu) ?_
  rw [show (-1 : Int32) + 2 = 1 by decide]
  unfold lpX8_gangs_59
  refine ⟨fun c => absurd c (by decide), fun _ => ⟨vp_of (by omega) (by omega), fun P2 eP2 => ?_⟩⟩
  rw [cl_of (by omega)] at eP2
  have eP2 : P2 = va_up P 208 (upd (P 208) (5 + 4 * k) (1 * x9)) := eP2
  have hr2 : rowOf (P2 208) n W K V B (upd S k (1 * x9)) := by
    rw [eP2, va_up_self]
    refine one P (-1 * x9) _ ?_
    rw [eP, va_up_self]; exact one M u _ hu
  refine g8_step (v := 1 * x9) h12 h3 hk hr2 ?_
  rw [show (1 : Int32) + 2 = 3 by decide]
  unfold lpX8_gangs_59
  refine ⟨fun _ => ?_, fun c => absurd (by decide) c⟩
  exact h P2 (fun x hx => by rw [eP2, va_up_ne _ _ hx, eP, va_up_ne _ _ hx]) ⟨_, hr2⟩
theorem p8_gangs {M : zM} {n k r : Nat} {W : Int32} {K V B S : Nat → Int32} {Q : Int32 → zM → Prop} (h12 : n ≤ 12) (h3 : 3 ≤ n) (hk : k < n) (hr : rowOf (M 206) n W K V B S) (hR : fReach K B k = nI r) (r3 : r ≤ 3) (hg : (gW n K V S k 0).toInt ≤ 2022)
    (h : ∀ N : zM, (∀ x, x ≠ 208 → N x = M x) → Q (gP (gW n K V S k) r).1 N) : wX8_gangs M 200 (nI k) Q := by
  have jn : jnX8_gangs_11 M 200 (nI k) Q (nI (k - 1)) := by
    unfold jnX8_gangs_11
    intro x5 e5
    rw [show (((2 : Int32) + 4 * nI k) + 3) = nI (2 + 4 * k + 3) from nI_4c k 3, show 2 + 4 * k + 3 = 5 + 4 * k by omega] at e5
    rw [e5]
    refine p8_copies (a := 0) (b := 0) (by decide) (by omega) (by omega) (by omega) (by omega) ?_
    have c0 : ∀ x, x ≠ 208 → va_up M 208 (va_cpy (M 206) (M 208) 0 0 50) x = M x := fun x hx => va_up_ne _ _ hx
    have c1 : rowOf (va_up M 208 (va_cpy (M 206) (M 208) 0 0 50) 208) n W K V B S := by
      rw [va_up_self]
      have q : ∀ i, i < 50 → va_cpy (M 206) (M 208) 0 0 50 i = M 206 i := fun i hi => cpy_in hi
      obtain ⟨a, b, c, d, e, f⟩ := hr
      exact ⟨by rw [q 0 (by omega)]; exact a, by rw [q 1 (by omega)]; exact b, fun j hj => (q _ (by omega)).trans (c j hj), fun j hj => (q _ (by omega)).trans (d j hj), fun j hj => (q _ (by omega)).trans (e j hj), fun j hj => (q _ (by omega)).trans (f j hj)⟩
    have upS : upd S k (S k) = S := upd_id S k
    have key : ∀ d j, j + d = r → ∀ N : zM, (∀ x, x ≠ 208 → N x = M x) → (∃ u, rowOf (N 208) n W K V B (upd S k u)) → lpX8_gangs_43 200 (nI k) (nI (k - 1)) (nI (5 + 4 * k)) Q (d + 1) (gP (gW n K V S k) j).1 (gP (gW n K V S k) j).2 (nI (j + 1)) N := by
      intro d
      induction d with
      | zero =>
        intro j hj N hN hu
        obtain rfl : j = r := by omega
        unfold lpX8_gangs_43
        have hN6 : rowOf (N 206) n W K V B S := by rw [hN 206 (by decide)]; exact hr
        refine p8_reach (o := 206) (by omega) (by omega) (by omega) ?_
        rw [fReach_of hk hN6.2.2.1 hN6.2.2.2.2.1, hR]
        exact ⟨fun _ => h N hN, fun c => absurd (nI_lt (by omega) (by omega)) c⟩
      | succ d ih =>
        intro j hj N hN hu
        unfold lpX8_gangs_43
        have hN6 : rowOf (N 206) n W K V B S := by rw [hN 206 (by decide)]; exact hr
        refine p8_reach (o := 206) (by omega) (by omega) (by omega) ?_
        rw [fReach_of hk hN6.2.2.1 hN6.2.2.2.2.1, hR]
        refine ⟨fun c => absurd c (nI_nlt (by omega) (by omega)), fun _ => ⟨3, g8_inner h12 h3 hk hu (fun P hP hu2 x20 e20 => ?_)⟩⟩
        rw [e20, nI_1, Int32.one_mul, show (-1 : Int32) * nI (j + 1) = -nI (j + 1) by rw [Int32.neg_mul, Int32.one_mul]]
        exact ih (j + 1) (by omega) P (fun x hx => by rw [hP x hx, hN x hx]) hu2
    refine ⟨r + 1 + 1, ?_⟩
    unfold lpX8_gangs_43
    have hN6 : rowOf (va_up M 208 (va_cpy (M 206) (M 208) 0 0 50) 206) n W K V B S := by rw [c0 206 (by decide)]; exact hr
    refine p8_reach (o := 206) (by omega) (by omega) (by omega) ?_
    rw [fReach_of hk hN6.2.2.1 hN6.2.2.2.2.1, hR]
    refine ⟨fun c => absurd c (nI_nlt (b := 0) (by omega) (by omega)), fun _ => ⟨3, g8_inner (W := W) (K := K) (V := V) (B := B) (S := S) h12 h3 hk ⟨S k, by rw [upS]; exact c1⟩ (fun P hP hu2 x20 e20 => ?_)⟩⟩
    have e0 : gpick (gW n K V S k) (gpick (gW n K V S k) (0, 1000000000) (-1 * 0)) (1 * 0) = gP (gW n K V S k) 0 := by
      rw [show (-1 : Int32) * 0 = 0 by decide, show (1 : Int32) * 0 = 0 by decide]
      have : gpick (gW n K V S k) (0, 1000000000) 0 = (0, gW n K V S k 0) := by
        unfold gpick
        rw [if_neg (by show ¬ (1000000000 : Int32) ≤ _; rw [pn_le, show (1000000000 : Int32).toInt = 1000000000 from rfl]; omega)]
      rw [this]
      unfold gpick
      rw [if_pos (by show gW n K V S k 0 ≤ gW n K V S k 0; rw [pn_le]; omega)]
      rfl
    rw [e0, e20, show (0 : Int32) + 1 = nI (0 + 1) from rfl]
    exact key r 0 (by omega) P (fun x hx => by rw [hP x hx, c0 x hx]) hu2
  unfold wX8_gangs
  refine ⟨fun c => ?_, fun c => ?_⟩
  · have : k = 0 := by rw [pn_le, pn_n (by omega), t0] at c; omega
    subst this; exact jn
  · have : ¬ k = 0 := by rw [pn_le, pn_n (by omega), t0] at c; omega
    rw [nm1 (by omega)]; exact jn
/-- the class's half of one state, the reference's half of another -/
def mx (X Y : zM) : zM := fun o => if o < 200 then X o else Y o
theorem mx_lo {X Y : zM} {o : Nat} (h : o < 200) : mx X Y o = X o := if_pos h
theorem mx_hi {X Y : zM} {o : Nat} (h : 200 ≤ o) : mx X Y o = Y o := if_neg (by omega)
theorem mx_eq {X Y : zM} (h : ∀ o, o < 200 → Y o = X o) : mx X Y = Y := by
  funext o
  by_cases c : o < 200
  · rw [mx_lo c, h o c]
  · rw [mx_hi (by omega)]
theorem reach_n {K B : Nat → Int32} {k : Nat} (h1 : 0 ≤ (B k).toInt) (h2 : (B k).toInt ≤ 3) : ∃ r : Nat, r ≤ 3 ∧ fReach K B k = nI r := by
  obtain ⟨a, b⟩ := fReach_rng (K := K) h1 h2
  exact ⟨(fReach K B k).toInt.toNat, by omega, pn_of a⟩
section PG
variable {S : zM → Prop}
theorem s_gang (hS : sOwn S) : st_gang (fun M _ => cAll S M) := by
  intro M J a m hI
  obtain ⟨n, e7, e8, h12, hrn, hn0⟩ := rail_n hI.2.2.2.1
  unfold wX7_gang
  refine p7_isPeg ?_
  rw [e7]
  refine ⟨fun c => ?_, fun c => p7_within ⟨fun c2 => ?_, fun c2 => ?_⟩⟩
  · unfold wX8_gang
    refine p8_isPeg ?_
    rw [e8]
    exact ⟨fun _ => ⟨rfl, hI⟩, fun q => absurd c q⟩
  · obtain ⟨p, hp, rfl⟩ := zin_nat (by omega) c
    have hok2 : rok M 20 := hn0.elim (fun q => by omega) (fun q => q.2)
    have h3 : 3 ≤ n := hn0.elim (fun q => by omega) (fun q => q.1)
    obtain ⟨v1, v2⟩ := zin_in c2
    rw [t1] at v1
    rw [show (12 : Int32).toInt = 12 from rfl] at v2
    obtain ⟨l, hl⟩ : ∃ l : Nat, l = m.toInt.toNat := ⟨_, rfl⟩
    have em : m = nI l := by rw [hl]; exact pn_of (by omega)
    subst em
    have hl1 : 1 ≤ l := by rw [pn_n (by have := pn_rng (nI l); omega)] at v1; omega
    have hl2 : l ≤ 12 := by omega
    have hend : zmin (nI p + nI l) (nI n) = nI (min (p + l) n) := by
      unfold zmin
      rw [nI_add]
      by_cases q : n < p + l
      · rw [if_pos (nI_lt q (by omega)), Nat.min_eq_right (by omega)]
      · rw [if_neg (nI_nlt (by omega) (by omega)), Nat.min_eq_left (by omega)]
    obtain ⟨e, he⟩ : ∃ e, e = min (p + l) n := ⟨_, rfl⟩
    rw [← he] at hend
    have he1 : p < e := by omega
    have he2 : e ≤ n := by omega
    have he3 : e = p + l ∨ e = n := by omega
    have hM20 : M (0 + 20) 0 = nI n := e7
    have key : ∀ d i, i + d = e → p ≤ i → ∀ (X : zM) (h x : Nat), (∀ o, 200 ≤ o → X o = M o) → X 20 0 = nI n → rok X 20 → X 41 0 = nI h → X 41 1 = nI x → h ≤ 24 → x < 24 →
        (∀ Z : zM, (∀ o, 200 ≤ o → Z o = M o) → ∀ Q : Int32 → zM → Prop, (∀ Y : zM, (∀ o, o < 200 → Y o = Z o) → cAll S (mx X Y) → lpX8_gang_23 200 (nI p) (nI l) Q (d + 1) (nI i) Y) → lpX8_gang_23 200 (nI p) (nI l) Q (e - p + 1) (nI p) Z) →
        lpX7_gang_38 M 0 (nI p) (nI l) (fun r1 M1 => wX8_gang M1 200 (nI p) (nI l) (fun r2 M2 => r1 = r2 ∧ cAll S M2)) (d + 1) (nI i) X := by
      intro d
      induction d with
      | zero =>
        intro i hi hpi X h x hX x20 xok hh hx h24 x24 hyp
        obtain rfl : i = e := by omega
        unfold lpX7_gang_38
        rw [hM20, hend]
        refine ⟨fun _ => p2_worst (o := 20) x20 h12 (by omega) ?_, fun q => absurd (nI_le (Nat.le_refl _) (by omega)) q⟩
        unfold wX8_gang
        refine p8_isPeg ?_
        rw [hX 206 (by omega), e8]
        refine ⟨fun q => absurd q c, fun _ => p8_in ⟨fun _ => ⟨i - p + 1, hyp X hX _ (fun Y hY hc => ?_)⟩, fun q => absurd q c2⟩⟩
        rw [mx_eq hY] at hc
        have y20 : ∀ o, o < 200 → Y o = X o := hY
        have yr := row_rel hc.2.2.2.1.1 (by rw [y20 20 (by omega)]; exact x20) h12
        unfold lpX8_gang_23
        have fin : wX8_worst Y (200 + 6) 50 (fun r9 => fWorst n (X (20 + 1)) (X (20 + 2)) (X (20 + 4)) = r9 ∧ cAll S Y) := by
          refine p8_worst (o := 206) (by omega) (by omega) yr.1 h12 (by omega) ⟨?_, hc⟩
          rw [fWorst_of yr.2.2.1 yr.2.2.2.1 yr.2.2.2.2.2, y20 (20 + 1) (by omega), y20 (20 + 2) (by omega), y20 (20 + 4) (by omega)]
        refine ⟨fun _ => fin, fun q => ⟨fun _ => fin, fun q2 => ?_⟩⟩
        exfalso
        rw [nI_add] at q
        rcases he3 with w | w
        · exact q (nI_le (by omega) (by omega))
        · exact q2 (by rw [show Y (200 + 6) (0 : Int32).toNatClampNeg = nI n from yr.1]; exact nI_le (by omega) (by omega))
      | succ d ih =>
        intro i hi hpi X h x hX x20 xok hh hx h24 x24 hyp
        have hin : i < n := by omega
        unfold lpX7_gang_38
        rw [hM20, hend]
        refine ⟨fun q => absurd q (nI_ge (by omega) (by omega)), fun _ => ?_⟩
        obtain ⟨m', em', -, hm', hw, hk⟩ := id xok
        have hmn : m' = n := by
          have : nI m' = nI n := by rw [← em', x20]
          rw [pn_eq, pn_n (by omega), pn_n (by omega)] at this; omega
        subst hmn
        have hb := (hk i hin).2.2.1
        have hv : ∀ k, k < m' → -999 ≤ (X (20 + 2) k).toInt ∧ (X (20 + 2) k).toInt ≤ 999 := fun k q => (hk k q).2.1
        have hs' : ∀ k, k < m' → -3 ≤ (X (20 + 4) k).toInt ∧ (X (20 + 4) k).toInt ≤ 3 := fun k q => (hk k q).2.2.2
        obtain ⟨r, r3, hr⟩ := reach_n (K := X (20 + 1)) (B := X (20 + 3)) (k := i) hb.1 hb.2
        have hg : (gW m' (X (20 + 1)) (X (20 + 2)) (X (20 + 4)) i 0).toInt ≤ 2022 := (gW_lt h3 hin hv hs' (by rw [t0]; omega) (by rw [t0]; omega)).2
        refine p2_evenest (o := 20) x20 h12 h3 hin hb hr r3 hg ?_
        obtain ⟨v, hvv⟩ : ∃ v, v = (gP (gW m' (X (20 + 1)) (X (20 + 2)) (X (20 + 4)) i) r).1 := ⟨_, rfl⟩
        have vr := gP_rng (gW m' (X (20 + 1)) (X (20 + 2)) (X (20 + 4)) i) r r3
        rw [← hvv] at vr ⊢
        unfold wX7_laySlew
        refine p7_keep x20 h12 hh hx h24 x24 (fun K hK => ⟨vp_of (by omega) (by omega), fun X2 eX2 x13 e13 => ?_⟩)
        rw [cl_of (by omega)] at eX2
        have eX2 : X2 = va_up K 24 (upd (K 24) i v) := eX2
        have f2 : ∀ o, o ≠ 24 → X2 o = K o := fun o ho => by rw [eX2, va_up_ne _ _ ho]
        have kk : ∀ y, y ≠ 41 → (y < 43 ∨ 163 ≤ y) → K y = X y := fun y h1 h2 => hK.2.2.2 y h1 (by omega)
        have g2 : ∀ o, o < 41 → o ≠ 24 → X2 o = X o := fun o h1 h2 => by rw [f2 o h2, kk o (by omega) (by omega)]
        have g24 : X2 24 = upd (X 24) i v := by rw [eX2, va_up_self, kk 24 (by decide) (by omega)]
        have ok2 : rok X2 20 := rok_put (f := 3) (k := i) (v := v) xok (by omega) (g2 20 (by omega) (by omega)) g24 (fun f hf hf2 => g2 _ (by omega) (by omega)) ⟨fun q => by omega, fun q => by omega, fun q => by omega, fun _ => vr⟩
        rw [e13, nI_1]
        refine ih (i + 1) (by omega) (by omega) X2 (if h < 24 then h + 1 else 24) ((x + 1) % 24) (fun o ho => by rw [f2 o (by omega), kk o (by omega) (by omega), hX o ho]) (by rw [g2 20 (by omega) (by omega)]; exact x20) ok2 (by rw [f2 41 (by decide)]; exact hK.1) (by rw [f2 41 (by decide)]; exact hK.2.1) (by split <;> omega) (Nat.mod_lt _ (by omega)) ?_
        intro Z hZ Q cont
        refine hyp Z hZ Q (fun Y hY hc => ?_)
        have c20 : mx X Y 20 0 = nI m' := by rw [mx_lo (by omega)]; exact x20
        have yr := row_rel hc.2.2.2.1.1 c20 h12
        rw [mx_hi (by omega), mx_lo (by omega), mx_lo (by omega), mx_lo (by omega), mx_lo (by omega), mx_lo (by omega)] at yr
        unfold lpX8_gang_23
        rw [show Y (200 + 6) (0 : Int32).toNatClampNeg = nI m' from yr.1, nI_add]
        refine ⟨fun q => absurd q (nI_ge (by omega) (by omega)), fun _ => ⟨fun q => absurd q (nI_ge (by omega) (by omega)), fun _ => ?_⟩⟩
        refine p8_gangs h12 h3 hin yr hr r3 hg (fun N hN => ?_)
        rw [← hvv]
        have hcN : cAll S (mx X N) := by
          refine all_fr hS hc (fun o ho => ?_) ?_ ?_ (cRail_of hc.2.2.2.1 ?_ ?_ ?_ ?_ ?_ ?_) (cHist_of hc.2.2.2.2.2.1 ?_ ?_ ?_)
          · unfold zk at ho
            by_cases q : o < 200
            · rw [mx_lo q, mx_lo q]
            · rw [mx_hi (by omega), mx_hi (by omega), hN o (by omega)]
          · rw [mx_hi (by omega), mx_hi (by omega), hN 200 (by omega)]; exact ⟨rfl, rfl, rfl, rfl⟩
          · rw [mx_lo (by omega), mx_lo (by omega)]; exact ⟨rfl, rfl⟩
          · rw [mx_lo (by omega), mx_lo (by omega)]
          · rw [mx_lo (by omega), mx_lo (by omega)]
          · rw [mx_lo (by omega), mx_lo (by omega)]
          · rw [mx_lo (by omega), mx_lo (by omega)]
          · rw [mx_lo (by omega), mx_lo (by omega)]
          · rw [mx_hi (by omega), mx_hi (by omega), hN 206 (by omega)]
          · rw [mx_hi (by omega), mx_hi (by omega), hN 200 (by omega)]
          · intro o h1 h2; rw [mx_lo (by omega), mx_lo (by omega)]
          · rw [mx_hi (by omega), mx_hi (by omega), hN 209 (by omega)]
        obtain ⟨h', x', hh', hx', h24', x24', h8', hs'⟩ := hist_n hcN.2.2.2.2.2.1
        have eh : h' = h := by
          rw [mx_lo (by omega), hh] at hh'
          exact ((nI_eq (by omega) (by omega)).1 hh').symm
        have ex : x' = x := by
          rw [mx_lo (by omega), hx] at hx'
          exact ((nI_eq (by omega) (by omega)).1 hx').symm
        subst eh ex
        have hn8 : N 200 8 = nI h' := by rw [mx_hi (by omega)] at h8'; exact h8'
        refine p8_notes hn8 h24 (fun B hB => ?_)
        intro x14 e14
        rw [show (((2 : Int32) + 4 * nI i) + 3) = nI (2 + 4 * i + 3) from nI_4c i 3, show 2 + 4 * i + 3 = 5 + 4 * i by omega] at e14
        rw [e14]
        refine ⟨vp_of (by omega) (by omega), fun N2 eN2 x16 e16 => ?_⟩
        rw [cl_of (by omega)] at eN2
        have eN2 : N2 = va_up B 206 (upd (B 206) (5 + 4 * i) v) := eN2
        have fN2 : ∀ o, o ≠ 206 → N2 o = B o := fun o ho => by rw [eN2, va_up_ne _ _ ho]
        have n206 : N2 206 = upd (Y 206) (5 + 4 * i) v := by rw [eN2, va_up_self, hB.1 206 (by decide) (by decide), hN 206 (by decide)]
        rw [e16, nI_1]
        refine cont N2 (fun o ho => by rw [fN2 o (by omega), hB.1 o (by omega) (by omega), hN o (by omega), hY o ho]) ?_
        have cN20 : mx X N 20 0 = nI m' := by rw [mx_lo (by omega)]; exact x20
        have hrnX : rn (mx X N) 20 = m' := by unfold rn; rw [cN20]; exact cl_of (by omega)
        have hKm : keepd (mx X N) (mx K N) m' h' x' := by
          obtain ⟨k1, k2, ⟨k3, k4, k5⟩, k6⟩ := hK
          refine ⟨by rw [mx_lo (by omega)]; exact k1, by rw [mx_lo (by omega)]; exact k2, ⟨by rw [mx_lo (by omega), mx_lo (by omega)]; exact k3, by rw [mx_lo (by omega), mx_lo (by omega)]; exact k4, fun j hj => ?_⟩, fun y h1 h2 => ?_⟩
          · rw [mx_lo (by omega), mx_lo (by omega), mx_lo (by omega), mx_lo (by omega), mx_lo (by omega), mx_lo (by omega), mx_lo (by omega), mx_lo (by omega)]
            exact k5 j hj
          · by_cases q : y < 200
            · rw [mx_lo q, mx_lo q]; exact k6 y h1 h2
            · rw [mx_hi (by omega), mx_hi (by omega)]
        have hBm : noted (mx X2 N) (mx X2 B) h' := by
          obtain ⟨b1, b2, b3, b4⟩ := hB
          refine ⟨fun o h1 h2 => ?_, fun k hk => by rw [mx_hi (by omega), mx_hi (by omega)]; exact b2 k hk, by rw [mx_hi (by omega)]; exact b3, fun j i hi => ?_⟩
          · by_cases q : o < 200
            · rw [mx_lo q, mx_lo q]
            · rw [mx_hi (by omega), mx_hi (by omega)]; exact b1 o h1 h2
          · rw [mx_hi (by omega), mx_hi (by omega), mx_hi (by omega)]; exact b4 j i hi
        have okN : rok (mx X N) 20 := rok_of xok (mx_lo (by omega)) (mx_lo (by omega)) (mx_lo (by omega)) (mx_lo (by omega)) (mx_lo (by omega))
        refine all_act hS hcN (by rw [mx_lo (by omega)]; exact hh) (by rw [mx_lo (by omega)]; exact hx) h24 x24 hs' okN hrnX hKm (A := mx X2 N) (B := mx X2 B) (fun o ho => ?_) hBm (fun o ho => ?_) ⟨?_, Or.inr ?_⟩
        · by_cases q : o < 200
          · rw [mx_lo q, mx_lo q, f2 o (by omega)]
          · rw [mx_hi (by omega), mx_hi (by omega)]
        · by_cases q : o < 200
          · rw [mx_lo q, mx_lo q]
          · rw [mx_hi (by omega), mx_hi (by omega), fN2 o ho]
        · refine rel_put (M := mx X Y) (f := 3) (k := i) (v := v) (w := Y 206) (n := m') (by have := hc.2.2.2.1.1; rw [mx_hi (by omega)] at this; exact this) (by unfold rn; rw [c20]; exact cl_of (by omega)) (by omega) ?_ ?_ ?_ ?_
          · rw [mx_lo (by omega), mx_lo (by omega), g2 20 (by omega) (by omega)]
          · rw [mx_lo (by omega), mx_lo (by omega)]; exact g24
          · intro g hg hg2; rw [mx_lo (by omega), mx_lo (by omega), g2 _ (by omega) (by omega)]
          · rw [mx_hi (by omega), n206, show 2 + 3 + 4 * i = 5 + 4 * i by omega]
        · exact rok_of ok2 (mx_lo (by omega)) (mx_lo (by omega)) (mx_lo (by omega)) (mx_lo (by omega)) (mx_lo (by omega))
    obtain ⟨h, x, hh, hx, h24, x24, h8, hs⟩ := hist_n hI.2.2.2.2.2.1
    refine ⟨e - p + 1, by omega, key (e - p) p (by omega) (Nat.le_refl _) M h x (fun _ _ => rfl) e7 hok2 hh hx h24 x24 (fun Z hZ Q cont => ?_)⟩
    refine cont Z (fun _ _ => rfl) ?_
    have : mx M Z = M := by
      funext o
      by_cases q : o < 200
      · exact mx_lo q
      · rw [mx_hi (by omega), hZ o (by omega)]
    rw [this]
    exact hI
  · unfold wX8_gang
    refine p8_isPeg ?_
    rw [e8]
    exact ⟨fun _ => ⟨rfl, hI⟩, fun _ => p8_in ⟨fun q => absurd c2 q, fun _ => ⟨rfl, hI⟩⟩⟩
end PG
