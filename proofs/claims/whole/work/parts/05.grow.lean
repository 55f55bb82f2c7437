/-! what is made later: a rail of the history, the search -/
theorem zW_app {Y : zY} {ad kd : Nat → Nat} {a b : List Nat} {M : zM} {J : zL} : zW Y ad kd (a ++ b) M J = zW Y ad kd a M J ++ zW Y ad kd b M J := by simp [zW]
theorem z_regrow {Y : zY} {ad kd ad1 kd1 : Nat → Nat} {RL NL : List Nat} {M : zM} {J : zL} {A : Nat → Prop} {b k : Nat} {e : va_E} {new : va_W} (hD : va_D A (zW Y ad kd RL M J)) (hk : RL[k]? = some b) (hb : ad1 b = ad b) (he : zc ad1 kd1 Y M J b = e) (ho : ∀ x ∈ RL, x ≠ b → ad1 x = ad x ∧ zc ad1 kd1 Y M J x = zc ad kd Y M J x) (hn : new = zW Y ad1 kd1 NL M J) : (zW Y ad kd RL M J ++ new).set k (ad b, e) = zW Y ad1 kd1 (RL ++ NL) M J := by
  have hkl : k < RL.length := (List.getElem?_eq_some_iff.mp hk).1
  have hkz : k < (zW Y ad kd RL M J).length := by simp [zW, hkl]
  rw [List.set_append_left _ _ hkz, zW_app, hn]
  congr 1
  apply List.ext_getElem?
  intro i
  rw [List.getElem?_set]
  by_cases hi : k = i
  · subst hi
    have hko : RL[k] = b := (List.getElem?_eq_some_iff.mp hk).2
    simp [zW, hkl, hko, he, hb]
  · rw [if_neg hi]
    cases hx : RL[i]? with
    | none => simp [zW, hx]
    | some x =>
      have hne : x ≠ b := fun e => hi (by
        subst e
        exact hD.1 k i (ad x, zc ad kd Y M J x) (ad x, zc ad kd Y M J x) (by simp [zW, hk]) (by simp [zW, hx]) rfl)
      have h2 := ho x (List.mem_of_getElem? hx) hne
      simp [zW, hx, h2.1, h2.2]
theorem zc_ext {Y : zY} {ad kd ad1 kd1 : Nat → Nat} {M : zM} {J : zL} {o : Nat} (hE : zE ad kd ad1 kd1) (hC : zCl kd) (ho : kd o ≠ 99) (h14 : kd o = 14 → ∀ i, i < 24 → (kd1 (o + 1 + 5 * i) = 2 ↔ kd (o + 1 + 5 * i) = 2)) (h7 : kd o = 7 → (kd1 (o + 168) = 4 ↔ kd (o + 168) = 4)) : zc ad1 kd1 Y M J o = zc ad kd Y M J o := by
  have e1 := (hE o ho).1
  have ea : ∀ x n, kd x = n → n ≠ 99 → ad1 x = ad x := fun x n h hn => (hE x (by rw [h]; exact hn)).2
  unfold zc zv
  rw [e1]
  by_cases c0 : kd o = 0
  · rw [if_pos c0, if_pos c0, ea _ _ (zk_0_1 hC c0) (by decide)]
  rw [if_neg c0, if_neg c0]
  by_cases c1 : kd o = 1
  · rw [if_pos c1, if_pos c1, ea _ _ (zk_1_1 hC c1) (by decide)]
  rw [if_neg c1, if_neg c1]
  by_cases c2 : kd o = 2
  · rw [if_pos c2, if_pos c2, ea _ _ (zk_2_1 hC c2) (by decide), ea _ _ (zk_2_2 hC c2) (by decide), ea _ _ (zk_2_3 hC c2) (by decide), ea _ _ (zk_2_4 hC c2) (by decide)]
  rw [if_neg c2, if_neg c2]
  by_cases c3 : kd o = 3
  · rw [if_pos c3, if_pos c3, ea _ _ (zk_3_1 hC c3) (by decide)]
  rw [if_neg c3, if_neg c3]
  by_cases c4 : kd o = 4
  · rw [if_pos c4, if_pos c4, ea _ _ (zk_4_1 hC c4) (by decide), ea _ _ (zk_4_6 hC c4) (by decide), ea _ _ (zk_4_7 hC c4) (by decide)]
  rw [if_neg c4, if_neg c4]
  by_cases c5 : kd o = 5
  · rw [if_pos c5, if_pos c5, ea _ _ (zk_5_w hC c5 _) (by decide), ea _ _ (zk_5_w hC c5 _) (by decide)]
  rw [if_neg c5, if_neg c5]
  by_cases c6 : kd o = 6
  · rw [if_pos c6, if_pos c6, ea _ _ (zk_6_1 hC c6) (by decide)]
  rw [if_neg c6, if_neg c6]
  by_cases c7 : kd o = 7
  · rw [if_pos c7, if_pos c7, ea _ _ (zk_7_1 hC c7) (by decide), ea _ _ (zk_7_18 hC c7) (by decide), ea _ _ (zk_7_20 hC c7) (by decide), ea _ _ (zk_7_25 hC c7) (by decide), ea _ _ (zk_7_30 hC c7) (by decide), ea _ _ (zk_7_41 hC c7) (by decide), ea _ _ (zk_7_163 hC c7) (by decide), ea _ _ (zk_7_165 hC c7) (by decide)]
    by_cases h4 : kd (o + 168) = 4
    · rw [if_pos h4, if_pos ((h7 c7).2 h4), ea _ _ h4 (by decide)]
    · rw [if_neg h4, if_neg (fun h => h4 ((h7 c7).1 h))]
  rw [if_neg c7, if_neg c7]
  by_cases c8 : kd o = 8
  · rw [if_pos c8, if_pos c8, ea _ _ (zk_8_1 hC c8) (by decide), ea _ _ (zk_8_2 hC c8) (by decide), ea _ _ (zk_8_3 hC c8) (by decide), ea _ _ (zk_8_4 hC c8) (by decide), ea _ _ (zk_8_5 hC c8) (by decide), ea _ _ (zk_8_6 hC c8) (by decide), ea _ _ (zk_8_7 hC c8) (by decide), ea _ _ (zk_8_8 hC c8) (by decide), ea _ _ (zk_8_9 hC c8) (by decide), ea _ _ (zk_8_10 hC c8) (by decide), ea _ _ (zk_8_11 hC c8) (by decide), ea _ _ (zk_8_12 hC c8) (by decide), ea _ _ (zk_8_13 hC c8) (by decide), ea _ _ (zk_8_14 hC c8) (by decide)]
  rw [if_neg c8, if_neg c8]
  by_cases d0 : kd o = 10
  · rw [if_pos d0, if_pos d0]
  rw [if_neg d0, if_neg d0]
  by_cases d1 : kd o = 11
  · rw [if_pos d1, if_pos d1]
  rw [if_neg d1, if_neg d1]
  by_cases d2 : kd o = 12
  · rw [if_pos d2, if_pos d2]
    have : (fun i => if i < 2 then some (ad1 (o + 1 + 5 * i)) else none) = (fun i => if i < 2 then some (ad (o + 1 + 5 * i)) else none) := by
      funext i
      by_cases hi : i < 2
      · rw [if_pos hi, if_pos hi, ea _ _ (zk_12 hC d2 hi) (by decide)]
      · rw [if_neg hi, if_neg hi]
    rw [this]
  rw [if_neg d2, if_neg d2]
  by_cases d3 : kd o = 13
  · rw [if_pos d3, if_pos d3]
    have : (fun i => if i < 8 then some (ad1 (o + 1 + 2 * i)) else none) = (fun i => if i < 8 then some (ad (o + 1 + 2 * i)) else none) := by
      funext i
      by_cases hi : i < 8
      · rw [if_pos hi, if_pos hi, ea _ _ (zk_13 hC d3 hi) (by decide)]
      · rw [if_neg hi, if_neg hi]
    rw [this]
  rw [if_neg d3, if_neg d3]
  by_cases d4 : kd o = 14
  · rw [if_pos d4, if_pos d4]
    have : (fun i => if i < 24 ∧ kd1 (o + 1 + 5 * i) = 2 then some (ad1 (o + 1 + 5 * i)) else none) = (fun i => if i < 24 ∧ kd (o + 1 + 5 * i) = 2 then some (ad (o + 1 + 5 * i)) else none) := by
      funext i
      by_cases hi : i < 24 ∧ kd (o + 1 + 5 * i) = 2
      · rw [if_pos hi, if_pos ⟨hi.1, (h14 d4 i hi.1).2 hi.2⟩, ea _ _ hi.2 (by decide)]
      · rw [if_neg hi, if_neg (fun h => hi ⟨h.1, (h14 d4 i h.1).1 h.2⟩)]
    rw [this]
  rw [if_neg d4, if_neg d4]
abbrev nwRail (Y : zY) (q0 q1 q2 q3 q4 : Nat) : va_W := [(q0, .inr (2, [.int 0, .int 0, .ref q1, .ref q2, .ref q3, .ref q4])), (q1, .inl (Y.1, 12, .inl (fun _ => 0))), (q2, .inl (Y.1, 12, .inl (fun _ => 0))), (q3, .inl (Y.1, 12, .inl (fun _ => 0))), (q4, .inl (Y.1, 12, .inl (fun _ => 0)))]
/-- a rail more of the history -/
theorem z_made_slot {D : va_G} {Y : zY} {ad kd : Nat → Nat} {RL : List Nat} {M : zM} {J : zL} {A : Nat → Prop} {H0 H H1 : Heap} {locs locs1 : List Loc} {s : State} {i k q0 q1 q2 q3 q4 : Nat} (hw : zH D Y ad kd RL M J A H0 H locs s) (hb : kd 42 = 14) (hi : i < 24) (hun : kd (42 + 1 + 5 * i) = 99 ∧ kd (42 + 1 + 5 * i + 1) = 99 ∧ kd (42 + 1 + 5 * i + 2) = 99 ∧ kd (42 + 1 + 5 * i + 3) = 99 ∧ kd (42 + 1 + 5 * i + 4) = 99) (hk : RL[k]? = some 42)
    (hP : va_P D vwCl ((zW Y ad kd RL M J ++ nwRail Y q0 q1 q2 q3 q4).set k (ad 42, .inl (Y.2.2.2.1, 24, .inr (.inr (.inr (.inr (va_up (fun j => if j < 24 ∧ kd (42 + 1 + 5 * j) = 2 then some (ad (42 + 1 + 5 * j)) else none) i (some q0)))))))) H1)
    (hD : va_D A ((zW Y ad kd RL M J ++ nwRail Y q0 q1 q2 q3 q4).set k (ad 42, .inl (Y.2.2.2.1, 24, .inr (.inr (.inr (.inr (va_up (fun j => if j < 24 ∧ kd (42 + 1 + 5 * j) = 2 then some (ad (42 + 1 + 5 * j)) else none) i (some q0))))))))) (hS : va_S A H0 H1 locs1) :
    ∃ (ad1 kd1 : Nat → Nat) (RL1 : List Nat), zE ad kd ad1 kd1 ∧ kd1 (42 + 1 + 5 * i) = 2 ∧ zH D Y ad1 kd1 RL1 M J A H0 H1 locs1 s := by
  obtain ⟨u0, u1, u2, u3, u4⟩ := hun
  have hC := hw.2.2.2.2.2.1
  have hR := hw.2.2.2.2.2.2.1
  have hZ := hw.2.2.2.2.2.2.2.1
  obtain ⟨o, ho⟩ : ∃ o, o = 42 + 1 + 5 * i := ⟨_, rfl⟩
  rw [← ho] at u0 u1 u2 u3 u4
  obtain ⟨ad1, had⟩ : ∃ f : Nat → Nat, f = fun x => if x = o then q0 else if x = o + 1 then q1 else if x = o + 2 then q2 else if x = o + 3 then q3 else if x = o + 4 then q4 else ad x := ⟨_, rfl⟩
  obtain ⟨kd1, hkd⟩ : ∃ f : Nat → Nat, f = fun x => if x = o then 2 else if x = o + 1 then 1012 else if x = o + 2 then 1012 else if x = o + 3 then 1012 else if x = o + 4 then 1012 else kd x := ⟨_, rfl⟩
  have k0 : kd1 o = 2 := by rw [hkd]; simp
  have k1 : kd1 (o + 1) = 1012 := by rw [hkd]; simp
  have k2 : kd1 (o + 2) = 1012 := by rw [hkd]; simp
  have k3 : kd1 (o + 3) = 1012 := by rw [hkd]; simp
  have k4 : kd1 (o + 4) = 1012 := by rw [hkd]; simp
  have a0 : ad1 o = q0 := by rw [had]; simp
  have a1 : ad1 (o + 1) = q1 := by rw [had]; simp
  have a2 : ad1 (o + 2) = q2 := by rw [had]; simp
  have a3 : ad1 (o + 3) = q3 := by rw [had]; simp
  have a4 : ad1 (o + 4) = q4 := by rw [had]; simp
  have kf : ∀ x, x ≠ o → x ≠ o + 1 → x ≠ o + 2 → x ≠ o + 3 → x ≠ o + 4 → kd1 x = kd x ∧ ad1 x = ad x := fun x h0 h1 h2 h3 h4 => by
    rw [hkd, had]; simp [h0, h1, h2, h3, h4]
  have hE : zE ad kd ad1 kd1 := fun x hx => kf x (fun e => hx (by rw [e]; exact u0)) (fun e => hx (by rw [e]; exact u1)) (fun e => hx (by rw [e]; exact u2)) (fun e => hx (by rw [e]; exact u3)) (fun e => hx (by rw [e]; exact u4))
  have hk1 : ∀ x n, kd x = n → n ≠ 99 → kd1 x = n := fun x n h hn => ((hE x (by rw [h]; exact hn)).1).trans h
  have hold : ∀ x n, kd1 x = n → n ≠ 2 → n ≠ 1012 → kd x = n := fun x n h h2 h3 => by
    by_cases e0 : x = o
    · exact absurd (by rw [← h, e0]; exact k0) h2
    by_cases e1 : x = o + 1
    · exact absurd (by rw [← h, e1]; exact k1) h3
    by_cases e2 : x = o + 2
    · exact absurd (by rw [← h, e2]; exact k2) h3
    by_cases e3 : x = o + 3
    · exact absurd (by rw [← h, e3]; exact k3) h3
    by_cases e4 : x = o + 4
    · exact absurd (by rw [← h, e4]; exact k4) h3
    rw [← (kf x e0 e1 e2 e3 e4).1]; exact h
  have hC1 : zCl kd1 := by
    refine ⟨fun x hx => ?_, fun x hx => ?_, fun x hx => ?_, fun x hx => ?_, fun x hx => ?_, fun x hx => ?_, fun x hx => ?_, fun x hx => ?_, fun x hx => ?_, fun x hx j hj => ?_, fun x hx j hj => ?_, fun x hx j hj => ?_, fun x hx => ?_, fun x hx => ?_, fun x hx => ?_⟩
    · exact hk1 _ _ (zk_0_1 hC (hold x _ hx (by decide) (by decide))) (by decide)
    · exact hk1 _ _ (zk_1_1 hC (hold x _ hx (by decide) (by decide))) (by decide)
    · by_cases e0 : x = o
      · subst e0; exact ⟨k1, k2, k3, k4⟩
      · have hx2 : kd x = 2 := by
          by_cases e1 : x = o + 1
          · rw [e1, k1] at hx; cases hx
          by_cases e2 : x = o + 2
          · rw [e2, k2] at hx; cases hx
          by_cases e3 : x = o + 3
          · rw [e3, k3] at hx; cases hx
          by_cases e4 : x = o + 4
          · rw [e4, k4] at hx; cases hx
          rw [← (kf x e0 e1 e2 e3 e4).1]; exact hx
        exact ⟨hk1 _ _ (zk_2_1 hC hx2) (by decide), hk1 _ _ (zk_2_2 hC hx2) (by decide), hk1 _ _ (zk_2_3 hC hx2) (by decide), hk1 _ _ (zk_2_4 hC hx2) (by decide)⟩
    · exact hk1 _ _ (zk_3_1 hC (hold x _ hx (by decide) (by decide))) (by decide)
    · have h := hold x _ hx (by decide) (by decide)
      exact ⟨hk1 _ _ (zk_4_1 hC h) (by decide), hk1 _ _ (zk_4_6 hC h) (by decide), hk1 _ _ (zk_4_7 hC h) (by decide)⟩
    · have h := hold x _ hx (by decide) (by decide)
      exact ⟨hk1 _ _ (zk_5_1 hC h) (by decide), hk1 _ _ (zk_5_2 hC h) (by decide)⟩
    · exact hk1 _ _ (zk_6_1 hC (hold x _ hx (by decide) (by decide))) (by decide)
    · have h := hold x _ hx (by decide) (by decide)
      exact ⟨hk1 _ _ (zk_7_1 hC h) (by decide), hk1 _ _ (zk_7_18 hC h) (by decide), hk1 _ _ (zk_7_20 hC h) (by decide), hk1 _ _ (zk_7_25 hC h) (by decide), hk1 _ _ (zk_7_30 hC h) (by decide), hk1 _ _ (zk_7_41 hC h) (by decide), hk1 _ _ (zk_7_163 hC h) (by decide), hk1 _ _ (zk_7_165 hC h) (by decide)⟩
    · have h := hold x _ hx (by decide) (by decide)
      exact ⟨hk1 _ _ (zk_8_1 hC h) (by decide), hk1 _ _ (zk_8_2 hC h) (by decide), hk1 _ _ (zk_8_3 hC h) (by decide), hk1 _ _ (zk_8_4 hC h) (by decide), hk1 _ _ (zk_8_5 hC h) (by decide), hk1 _ _ (zk_8_6 hC h) (by decide), hk1 _ _ (zk_8_7 hC h) (by decide), hk1 _ _ (zk_8_8 hC h) (by decide), hk1 _ _ (zk_8_9 hC h) (by decide), hk1 _ _ (zk_8_10 hC h) (by decide), hk1 _ _ (zk_8_11 hC h) (by decide), hk1 _ _ (zk_8_12 hC h) (by decide), hk1 _ _ (zk_8_13 hC h) (by decide), hk1 _ _ (zk_8_14 hC h) (by decide)⟩
    · exact hk1 _ _ (zk_12 hC (hold x _ hx (by decide) (by decide)) hj) (by decide)
    · exact hk1 _ _ (zk_13 hC (hold x _ hx (by decide) (by decide)) hj) (by decide)
    · have h := hold x _ hx (by decide) (by decide)
      have hx42 := zk_14z hC h
      subst hx42
      by_cases ej : j = i
      · right; rw [ej, ← ho]; exact k0
      · rcases zk_14 hC h hj with h5 | h5
        · left
          refine ⟨?_, ?_, ?_, ?_, ?_⟩
          · rw [(kf _ (by omega) (by omega) (by omega) (by omega) (by omega)).1]; exact h5.1
          · rw [(kf _ (by omega) (by omega) (by omega) (by omega) (by omega)).1]; exact h5.2.1
          · rw [(kf _ (by omega) (by omega) (by omega) (by omega) (by omega)).1]; exact h5.2.2.1
          · rw [(kf _ (by omega) (by omega) (by omega) (by omega) (by omega)).1]; exact h5.2.2.2.1
          · rw [(kf _ (by omega) (by omega) (by omega) (by omega) (by omega)).1]; exact h5.2.2.2.2
        · right; exact hk1 _ _ h5 (by decide)
    · have h := hold x _ hx (by decide) (by decide)
      have hx0 := zk_7z hC h
      subst hx0
      rcases zk_7s hC h with h5 | h5
      · left
        intro j hj
        rw [(kf _ (by omega) (by omega) (by omega) (by omega) (by omega)).1]; exact h5 j hj
      · right; exact hk1 _ _ h5 (by decide)
    · exact zk_7z hC (hold x _ hx (by decide) (by decide))
    · exact zk_14z hC (hold x _ hx (by decide) (by decide))
  have hset := z_regrow (Y := Y) (ad := ad) (kd := kd) (ad1 := ad1) (kd1 := kd1) (RL := RL) (NL := [o, o + 1, o + 2, o + 3, o + 4]) (M := M) (J := J) (b := 42) (k := k) (e := .inl (Y.2.2.2.1, 24, .inr (.inr (.inr (.inr (va_up (fun j => if j < 24 ∧ kd (42 + 1 + 5 * j) = 2 then some (ad (42 + 1 + 5 * j)) else none) i (some q0))))))) (new := nwRail Y q0 q1 q2 q3 q4) hw.2.2.1 hk (hE 42 (by rw [hb]; decide)).2 ?_ ?_ ?_
  rotate_left
  · have hf : (fun j => if j < 24 ∧ kd1 (42 + 1 + 5 * j) = 2 then some (ad1 (42 + 1 + 5 * j)) else none) = va_up (fun j => if j < 24 ∧ kd (42 + 1 + 5 * j) = 2 then some (ad (42 + 1 + 5 * j)) else none) i (some q0) := by
      funext j
      by_cases ej : j = i
      · subst ej
        rw [va_up_self, ← ho, if_pos ⟨hi, k0⟩, a0]
      · rw [va_up_ne _ _ ej]
        obtain ⟨e1, e2⟩ := kf (42 + 1 + 5 * j) (by omega) (by omega) (by omega) (by omega) (by omega)
        rw [e1, e2]
    unfold zc zv
    rw [hk1 42 14 hb (by decide)]
    simp only [show ¬ ((14 : Nat) = 0) by decide, show ¬ ((14 : Nat) = 1) by decide, show ¬ ((14 : Nat) = 2) by decide, show ¬ ((14 : Nat) = 3) by decide, show ¬ ((14 : Nat) = 4) by decide, show ¬ ((14 : Nat) = 5) by decide, show ¬ ((14 : Nat) = 6) by decide, show ¬ ((14 : Nat) = 7) by decide, show ¬ ((14 : Nat) = 8) by decide, show ¬ ((14 : Nat) = 10) by decide, show ¬ ((14 : Nat) = 11) by decide, show ¬ ((14 : Nat) = 12) by decide, show ¬ ((14 : Nat) = 13) by decide, if_false, if_true]
    rw [hf]
  · intro x hx hne
    have hx9 := (hR x).2 hx
    refine ⟨(hE x hx9).2, zc_ext hE hC hx9 (fun h => absurd (zk_14z hC h) hne) (fun h => ?_)⟩
    have hx0 := zk_7z hC h
    subst hx0
    rw [(kf _ (by omega) (by omega) (by omega) (by omega) (by omega)).1]
  · simp only [zW, List.map]
    rw [a0, a1, a2, a3, a4]
    rw [z_is_2 k0, z_arr (n := 12) k1, z_arr (n := 12) k2, z_arr (n := 12) k3, z_arr (n := 12) k4, a1, a2, a3, a4]
    have m0 := (hZ o u0).1
    have m1 := (hZ _ u1).1
    have m2 := (hZ _ u2).1
    have m3 := (hZ _ u3).1
    have m4 := (hZ _ u4).1
    have z : ∀ x, x < 163 → zI x = fun _ => 0 := fun x hx => by funext k; simp [zI]; omega
    rw [m0, m1, m2, m3, m4, z o (by omega), z (o + 1) (by omega), z (o + 2) (by omega), z (o + 3) (by omega), z (o + 4) (by omega)]
  · rw [hset] at hP hD
    refine ⟨ad1, kd1, _, hE, by rw [← ho]; exact k0, hP, hw.2.1, hD, hS, hw.2.2.2.2.1, hC1, fun x => ?_, fun x hx => ?_, hw.2.2.2.2.2.2.2.2⟩
    · rw [List.mem_append, ← hR x]
      constructor
      · intro h
        by_cases h9 : kd x = 99
        · right
          by_cases e0 : x = o
          · simp [e0]
          by_cases e1 : x = o + 1
          · simp [e1]
          by_cases e2 : x = o + 2
          · simp [e2]
          by_cases e3 : x = o + 3
          · simp [e3]
          by_cases e4 : x = o + 4
          · simp [e4]
          exact absurd ((kf x e0 e1 e2 e3 e4).1.trans h9) h
        · exact Or.inl h9
      · rintro (h | h)
        · rw [(hE x h).1]; exact h
        · simp only [List.mem_cons, List.not_mem_nil, or_false] at h
          rcases h with h | h | h | h | h <;> rw [h]
          · rw [k0]; decide
          · rw [k1]; decide
          · rw [k2]; decide
          · rw [k3]; decide
          · rw [k4]; decide
    · exact hZ x (by
        by_cases h9 : kd x = 99
        · exact h9
        · exact absurd ((hE x h9).1 ▸ hx) h9)
abbrev nwSearch (Y : zY) (q0 q1 q2 q3 q4 q5 q6 q7 : Nat) : va_W := [(q0, .inr (4, [.ref q1, .ref q6, .ref q7, .int 0, .int 0, .int 0, .int (-1)])), (q1, .inr (2, [.int 0, .int 0, .ref q2, .ref q3, .ref q4, .ref q5])), (q2, .inl (Y.1, 12, .inl (fun _ => 0))), (q3, .inl (Y.1, 12, .inl (fun _ => 0))), (q4, .inl (Y.1, 12, .inl (fun _ => 0))), (q5, .inl (Y.1, 12, .inl (fun _ => 0))), (q6, .inl (Y.1, 4116, .inl (fun _ => 0))), (q7, .inl (Y.1, 12, .inl (fun _ => 0)))]
abbrev flTop (ad : Nat → Nat) (M : zM) (sr : Value) : List Value := [.ref (ad (0 + 1)), .ref (ad (0 + 18)), .ref (ad (0 + 20)), .ref (ad (0 + 25)), .ref (ad (0 + 30)), .ref (ad (0 + 41)), .ref (ad (0 + 163)), .ref (ad (0 + 165)), sr, .int (M 0 0)]
theorem z_made_search {D : va_G} {Y : zY} {ad kd : Nat → Nat} {RL : List Nat} {M : zM} {J : zL} {A : Nat → Prop} {H0 H H1 : Heap} {locs locs1 : List Loc} {s : State} {k q0 q1 q2 q3 q4 q5 q6 q7 : Nat} (hw : zH D Y ad kd RL M J A H0 H locs s) (hb : kd 0 = 7) (hun : ∀ i, i < 8 → kd (168 + i) = 99) (hk : RL[k]? = some 0)
    (hP : va_P D vwCl ((zW Y ad kd RL M J ++ nwSearch Y q0 q1 q2 q3 q4 q5 q6 q7).set k (ad 0, .inr (7, flTop ad M (.ref q0)))) H1)
    (hD : va_D A ((zW Y ad kd RL M J ++ nwSearch Y q0 q1 q2 q3 q4 q5 q6 q7).set k (ad 0, .inr (7, flTop ad M (.ref q0))))) (hS : va_S A H0 H1 locs1) :
    ∃ (ad1 kd1 : Nat → Nat) (RL1 : List Nat), zE ad kd ad1 kd1 ∧ kd1 168 = 4 ∧ zH D Y ad1 kd1 RL1 M J A H0 H1 locs1 s := by
  have u0 := hun 0 (by decide)
  have u1 := hun 1 (by decide)
  have u2 := hun 2 (by decide)
  have u3 := hun 3 (by decide)
  have u4 := hun 4 (by decide)
  have u5 := hun 5 (by decide)
  have u6 := hun 6 (by decide)
  have u7 := hun 7 (by decide)
  have hC := hw.2.2.2.2.2.1
  have hR := hw.2.2.2.2.2.2.1
  have hZ := hw.2.2.2.2.2.2.2.1
  obtain ⟨ad1, had⟩ : ∃ f : Nat → Nat, f = fun x => if x = 168 then q0 else if x = 169 then q1 else if x = 170 then q2 else if x = 171 then q3 else if x = 172 then q4 else if x = 173 then q5 else if x = 174 then q6 else if x = 175 then q7 else ad x := ⟨_, rfl⟩
  obtain ⟨kd1, hkd⟩ : ∃ f : Nat → Nat, f = fun x => if x = 168 then 4 else if x = 169 then 2 else if x = 170 then 1012 else if x = 171 then 1012 else if x = 172 then 1012 else if x = 173 then 1012 else if x = 174 then 5116 else if x = 175 then 1012 else kd x := ⟨_, rfl⟩
  have k0 : kd1 168 = 4 := by rw [hkd]; rfl
  have k1 : kd1 169 = 2 := by rw [hkd]; rfl
  have k2 : kd1 170 = 1012 := by rw [hkd]; rfl
  have k3 : kd1 171 = 1012 := by rw [hkd]; rfl
  have k4 : kd1 172 = 1012 := by rw [hkd]; rfl
  have k5 : kd1 173 = 1012 := by rw [hkd]; rfl
  have k6 : kd1 174 = 5116 := by rw [hkd]; rfl
  have k7 : kd1 175 = 1012 := by rw [hkd]; rfl
  have a0 : ad1 168 = q0 := by rw [had]; rfl
  have a1 : ad1 169 = q1 := by rw [had]; rfl
  have a2 : ad1 170 = q2 := by rw [had]; rfl
  have a3 : ad1 171 = q3 := by rw [had]; rfl
  have a4 : ad1 172 = q4 := by rw [had]; rfl
  have a5 : ad1 173 = q5 := by rw [had]; rfl
  have a6 : ad1 174 = q6 := by rw [had]; rfl
  have a7 : ad1 175 = q7 := by rw [had]; rfl
  have kf : ∀ x, (x < 168 ∨ 175 < x) → kd1 x = kd x ∧ ad1 x = ad x := fun x h => by
    rw [hkd, had]; simp [show x ≠ 168 by omega, show x ≠ 169 by omega, show x ≠ 170 by omega, show x ≠ 171 by omega, show x ≠ 172 by omega, show x ≠ 173 by omega, show x ≠ 174 by omega, show x ≠ 175 by omega]
  have hin : ∀ x, 168 ≤ x → x ≤ 175 → kd x = 99 ∧ (kd1 x = 4 ∨ kd1 x = 2 ∨ kd1 x = 1012 ∨ kd1 x = 5116) := fun x h1 h2 => by
    refine ⟨?_, ?_⟩
    · have := hun (x - 168) (by omega)
      rwa [show 168 + (x - 168) = x by omega] at this
    · rcases (show x = 168 ∨ x = 169 ∨ x = 170 ∨ x = 171 ∨ x = 172 ∨ x = 173 ∨ x = 174 ∨ x = 175 by omega) with h | h | h | h | h | h | h | h <;> rw [h]
      · exact Or.inl k0
      · exact Or.inr (Or.inl k1)
      · exact Or.inr (Or.inr (Or.inl k2))
      · exact Or.inr (Or.inr (Or.inl k3))
      · exact Or.inr (Or.inr (Or.inl k4))
      · exact Or.inr (Or.inr (Or.inl k5))
      · exact Or.inr (Or.inr (Or.inr k6))
      · exact Or.inr (Or.inr (Or.inl k7))
  have hE : zE ad kd ad1 kd1 := fun x hx => kf x (by
    by_cases h1 : x < 168
    · exact Or.inl h1
    · by_cases h2 : 175 < x
      · exact Or.inr h2
      · exact absurd (hin x (by omega) (by omega)).1 hx)
  have hk1 : ∀ x n, kd x = n → n ≠ 99 → kd1 x = n := fun x n h hn => ((hE x (by rw [h]; exact hn)).1).trans h
  have hold : ∀ x n, kd1 x = n → n ≠ 4 → n ≠ 2 → n ≠ 1012 → n ≠ 5116 → kd x = n := fun x n h h1 h2 h3 h4 => by
    by_cases c1 : x < 168
    · rw [← (kf x (Or.inl c1)).1]; exact h
    · by_cases c2 : 175 < x
      · rw [← (kf x (Or.inr c2)).1]; exact h
      · rcases (hin x (by omega) (by omega)).2 with h5 | h5 | h5 | h5
        · exact absurd (h.symm.trans h5) h1
        · exact absurd (h.symm.trans h5) h2
        · exact absurd (h.symm.trans h5) h3
        · exact absurd (h.symm.trans h5) h4
  have hC1 : zCl kd1 := by
    refine ⟨fun x hx => ?_, fun x hx => ?_, fun x hx => ?_, fun x hx => ?_, fun x hx => ?_, fun x hx => ?_, fun x hx => ?_, fun x hx => ?_, fun x hx => ?_, fun x hx j hj => ?_, fun x hx j hj => ?_, fun x hx j hj => ?_, fun x hx => ?_, fun x hx => ?_, fun x hx => ?_⟩
    · exact hk1 _ _ (zk_0_1 hC (hold x _ hx (by decide) (by decide) (by decide) (by decide))) (by decide)
    · exact hk1 _ _ (zk_1_1 hC (hold x _ hx (by decide) (by decide) (by decide) (by decide))) (by decide)
    · by_cases e0 : x = 169
      · subst e0; exact ⟨k2, k3, k4, k5⟩
      · have hx2 : kd x = 2 := by
          by_cases c1 : x < 168
          · rw [← (kf x (Or.inl c1)).1]; exact hx
          · by_cases c2 : 175 < x
            · rw [← (kf x (Or.inr c2)).1]; exact hx
            · rcases (show x = 168 ∨ x = 170 ∨ x = 171 ∨ x = 172 ∨ x = 173 ∨ x = 174 ∨ x = 175 by omega) with h | h | h | h | h | h | h <;> rw [h] at hx
              · rw [k0] at hx; cases hx
              · rw [k2] at hx; cases hx
              · rw [k3] at hx; cases hx
              · rw [k4] at hx; cases hx
              · rw [k5] at hx; cases hx
              · rw [k6] at hx; cases hx
              · rw [k7] at hx; cases hx
        exact ⟨hk1 _ _ (zk_2_1 hC hx2) (by decide), hk1 _ _ (zk_2_2 hC hx2) (by decide), hk1 _ _ (zk_2_3 hC hx2) (by decide), hk1 _ _ (zk_2_4 hC hx2) (by decide)⟩
    · exact hk1 _ _ (zk_3_1 hC (hold x _ hx (by decide) (by decide) (by decide) (by decide))) (by decide)
    · by_cases e0 : x = 168
      · subst e0; exact ⟨k1, k6, k7⟩
      · have hx2 : kd x = 4 := by
          by_cases c1 : x < 168
          · rw [← (kf x (Or.inl c1)).1]; exact hx
          · by_cases c2 : 175 < x
            · rw [← (kf x (Or.inr c2)).1]; exact hx
            · rcases (show x = 169 ∨ x = 170 ∨ x = 171 ∨ x = 172 ∨ x = 173 ∨ x = 174 ∨ x = 175 by omega) with h | h | h | h | h | h | h <;> rw [h] at hx
              · rw [k1] at hx; cases hx
              · rw [k2] at hx; cases hx
              · rw [k3] at hx; cases hx
              · rw [k4] at hx; cases hx
              · rw [k5] at hx; cases hx
              · rw [k6] at hx; cases hx
              · rw [k7] at hx; cases hx
        exact ⟨hk1 _ _ (zk_4_1 hC hx2) (by decide), hk1 _ _ (zk_4_6 hC hx2) (by decide), hk1 _ _ (zk_4_7 hC hx2) (by decide)⟩
    · have h := hold x _ hx (by decide) (by decide) (by decide) (by decide)
      exact ⟨hk1 _ _ (zk_5_1 hC h) (by decide), hk1 _ _ (zk_5_2 hC h) (by decide)⟩
    · exact hk1 _ _ (zk_6_1 hC (hold x _ hx (by decide) (by decide) (by decide) (by decide))) (by decide)
    · have h := hold x _ hx (by decide) (by decide) (by decide) (by decide)
      exact ⟨hk1 _ _ (zk_7_1 hC h) (by decide), hk1 _ _ (zk_7_18 hC h) (by decide), hk1 _ _ (zk_7_20 hC h) (by decide), hk1 _ _ (zk_7_25 hC h) (by decide), hk1 _ _ (zk_7_30 hC h) (by decide), hk1 _ _ (zk_7_41 hC h) (by decide), hk1 _ _ (zk_7_163 hC h) (by decide), hk1 _ _ (zk_7_165 hC h) (by decide)⟩
    · have h := hold x _ hx (by decide) (by decide) (by decide) (by decide)
      exact ⟨hk1 _ _ (zk_8_1 hC h) (by decide), hk1 _ _ (zk_8_2 hC h) (by decide), hk1 _ _ (zk_8_3 hC h) (by decide), hk1 _ _ (zk_8_4 hC h) (by decide), hk1 _ _ (zk_8_5 hC h) (by decide), hk1 _ _ (zk_8_6 hC h) (by decide), hk1 _ _ (zk_8_7 hC h) (by decide), hk1 _ _ (zk_8_8 hC h) (by decide), hk1 _ _ (zk_8_9 hC h) (by decide), hk1 _ _ (zk_8_10 hC h) (by decide), hk1 _ _ (zk_8_11 hC h) (by decide), hk1 _ _ (zk_8_12 hC h) (by decide), hk1 _ _ (zk_8_13 hC h) (by decide), hk1 _ _ (zk_8_14 hC h) (by decide)⟩
    · exact hk1 _ _ (zk_12 hC (hold x _ hx (by decide) (by decide) (by decide) (by decide)) hj) (by decide)
    · exact hk1 _ _ (zk_13 hC (hold x _ hx (by decide) (by decide) (by decide) (by decide)) hj) (by decide)
    · have h := hold x _ hx (by decide) (by decide) (by decide) (by decide)
      have hx42 := zk_14z hC h
      subst hx42
      rcases zk_14 hC h hj with h5 | h5
      · left
        refine ⟨?_, ?_, ?_, ?_, ?_⟩
        · rw [(kf _ (by omega)).1]; exact h5.1
        · rw [(kf _ (by omega)).1]; exact h5.2.1
        · rw [(kf _ (by omega)).1]; exact h5.2.2.1
        · rw [(kf _ (by omega)).1]; exact h5.2.2.2.1
        · rw [(kf _ (by omega)).1]; exact h5.2.2.2.2
      · right; exact hk1 _ _ h5 (by decide)
    · have h := hold x _ hx (by decide) (by decide) (by decide) (by decide)
      have hx0 := zk_7z hC h
      subst hx0
      exact Or.inr k0
    · exact zk_7z hC (hold x _ hx (by decide) (by decide) (by decide) (by decide))
    · exact zk_14z hC (hold x _ hx (by decide) (by decide) (by decide) (by decide))
  have hset := z_regrow (Y := Y) (ad := ad) (kd := kd) (ad1 := ad1) (kd1 := kd1) (RL := RL) (NL := [168, 169, 170, 171, 172, 173, 174, 175]) (M := M) (J := J) (b := 0) (k := k) (e := .inr (7, flTop ad M (.ref q0))) (new := nwSearch Y q0 q1 q2 q3 q4 q5 q6 q7) hw.2.2.1 hk (hE 0 (by rw [hb]; decide)).2 ?_ ?_ ?_
  rotate_left
  · rw [z_is_7 (hk1 0 7 hb (by decide))]
    rw [if_pos (show kd1 (0 + 168) = 4 from k0), (kf (0 + 1) (by omega)).2, (kf (0 + 18) (by omega)).2, (kf (0 + 20) (by omega)).2, (kf (0 + 25) (by omega)).2, (kf (0 + 30) (by omega)).2, (kf (0 + 41) (by omega)).2, (kf (0 + 163) (by omega)).2, (kf (0 + 165) (by omega)).2, show ad1 (0 + 168) = q0 from a0]
    rfl
  · intro x hx hne
    have hx9 := (hR x).2 hx
    refine ⟨(hE x hx9).2, zc_ext hE hC hx9 (fun h i hi => ?_) (fun h => absurd (zk_7z hC h) hne)⟩
    have hx42 := zk_14z hC h
    subst hx42
    rw [(kf _ (by omega)).1]
  · simp only [zW, List.map]
    rw [a0, a1, a2, a3, a4, a5, a6, a7]
    rw [z_is_4 k0, z_is_2 k1, z_arr (n := 12) k2, z_arr (n := 12) k3, z_arr (n := 12) k4, z_arr (n := 12) k5, z_arr (n := 4116) k6, z_arr (n := 12) k7]
    have m0 := (hZ _ u0).1
    have m1 := (hZ _ u1).1
    have m2 := (hZ _ u2).1
    have m3 := (hZ _ u3).1
    have m4 := (hZ _ u4).1
    have m5 := (hZ _ u5).1
    have m6 := (hZ _ u6).1
    have m7 := (hZ _ u7).1
    have z : ∀ x, 168 < x → zI x = fun _ => 0 := fun x hx => by funext k; simp [zI]; omega
    simp only [Nat.add_zero] at m0
    rw [m0, show (169 : Nat) = 168 + 1 from rfl, m1, show (170 : Nat) = 168 + 2 from rfl, m2, show (171 : Nat) = 168 + 3 from rfl, m3, show (172 : Nat) = 168 + 4 from rfl, m4, show (173 : Nat) = 168 + 5 from rfl, m5, show (174 : Nat) = 168 + 6 from rfl, m6, show (175 : Nat) = 168 + 7 from rfl, m7, z (168 + 1) (by omega), z (168 + 2) (by omega), z (168 + 3) (by omega), z (168 + 4) (by omega), z (168 + 5) (by omega), z (168 + 6) (by omega), z (168 + 7) (by omega)]
    simp only [show ad1 (168 + 1) = q1 from a1, show ad1 (168 + 1 + 1) = q2 from a2, show ad1 (168 + 1 + 2) = q3 from a3, show ad1 (168 + 1 + 3) = q4 from a4, show ad1 (168 + 1 + 4) = q5 from a5, show ad1 (168 + 6) = q6 from a6, show ad1 (168 + 7) = q7 from a7]
    rfl
  · rw [hset] at hP hD
    refine ⟨ad1, kd1, _, hE, k0, hP, hw.2.1, hD, hS, hw.2.2.2.2.1, hC1, fun x => ?_, fun x hx => ?_, hw.2.2.2.2.2.2.2.2⟩
    · rw [List.mem_append, ← hR x]
      constructor
      · intro h
        by_cases h9 : kd x = 99
        · right
          have hx : 168 ≤ x ∧ x ≤ 175 := by
            by_cases c1 : x < 168
            · exact absurd ((kf x (Or.inl c1)).1.trans h9) h
            · by_cases c2 : 175 < x
              · exact absurd ((kf x (Or.inr c2)).1.trans h9) h
              · omega
          simp only [List.mem_cons, List.not_mem_nil, or_false]
          omega
        · exact Or.inl h9
      · rintro (h | h)
        · rw [(hE x h).1]; exact h
        · simp only [List.mem_cons, List.not_mem_nil, or_false] at h
          have := (hin x (by omega) (by omega)).2
          omega
    · exact hZ x (by
        by_cases h9 : kd x = 99
        · exact h9
        · exact absurd ((hE x h9).1 ▸ hx) h9)
