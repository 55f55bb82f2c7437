/-! PURE: best(), the reference's slews -/
section RC
variable {M : zM} {o n : Nat} {K V B : Nat → Int32} {s : Nat → Nat}
theorem y_hit (hg : rg n V B) {b c : Nat} (hb : b ≤ 6) (hc : c ≤ 6) : xC n K V B b c = bL n K V B ↔ hR (bT n K V B 1000000000 (gR (bA n K V B)) (n - 1) 3 b c) b c = bM n K V B (bA n K V B) := rlw_eq (Nat.le_refl 14) (bL_lt hg) (bL_rl hg _) (x_rl hg _ hb hc)
theorem c_hit (hg : rg n V B) {k a b c d : Nat} (hk : k + 2 < n) (ha : a ≤ 6) (hb : b ≤ 6) (hc : c ≤ 6) (hd : d ≤ 6) (ht : tC n K V B (n - 1 - k) a b c < 268435456) : cC n K V B k a b c d = tC n K V B (n - 1 - k) a b c ↔ gR (bA n K V B) (bS K V k a b c d) d (bT n K V B 1000000000 (gR (bA n K V B)) (n - 2 - k) b c d) = bT n K V B 1000000000 (gR (bA n K V B)) (n - 1 - k) a b c := by
  have h12 := hg.2.1
  have h1 := bT_rl (K := K) hg (bA n K V B) (n - 1 - k) a b c (by omega) ha hb hc
  have h2 := g_rl (w := bA n K V B) (j := n - 2 - k) (by omega) (bS_le (K := K) hg (show k + 1 < n by omega) ha hb hc hd) hd (bT_rl (K := K) hg (bA n K V B) (n - 2 - k) b c d (by omega) hb hc hd)
  rw [show n - 2 - k + 1 = n - 1 - k by omega] at h2
  exact rlw_eq (by omega) ht h1 (rl_w h2)
theorem bM_lt (hg : rg n V B) : bM n K V B (bA n K V B) < 1000000000 := by
  have h2 := bA_le (K := K) hg
  exact (bM_feas (K := K) hg (w := bA n K V B) (by omega)).2 (Nat.le_refl _)
/-- the first two slews, and what was found of them so far -/
def fnd (M N : zM) (o : Nat) (s : Nat → Nat) (b c : Nat) (x : Int32) : Prop := ((s 0 < b ∨ (s 0 = b ∧ s 1 < c)) → x = 0 ∧ fr M N (o + 13) ∧ N (o + 13) 0 = cd (s 0) ∧ N (o + 13) 1 = cd (s 1)) ∧ (¬ (s 0 < b ∨ (s 0 = b ∧ s 1 < c)) → x = 1 ∧ N = M)
theorem p8_first {C : Int32 → Int32 → zM → Prop} (hg : rg n V B) (h10 : M o 10 = nI (bM n K V B (bA n K V B))) (ht : tR (M (o + 12)) n K V B 1000000000 (gR (bA n K V B)) 0) (h0 : sp0 n K V B s) (h : ∀ x y N, fr M N (o + 13) → N (o + 13) 0 = cd (s 0) → N (o + 13) 1 = cd (s 1) → C x y N) : ∃ fu, lpX8_findsBest_73 o (nI (bR n K B 0)) (nI (bR n K B 1)) C fu (1 : Int32) (cd (3 - bR n K B 0)) M := by
  have rb := bR_le (K := K) hg 0
  have rc := bR_le (K := K) hg 1
  have hM := bM_lt (K := K) hg
  obtain ⟨i0, i1, hx, hm⟩ := h0
  have i0' : 3 ≤ s 0 + bR n K B 0 ∧ s 0 ≤ 3 + bR n K B 0 := i0
  have i1' : 3 ≤ s 1 + bR n K B 1 ∧ s 1 ≤ 3 + bR n K B 1 := i1
  have key2 : ∀ b, ir n K B 0 b → ∀ C : Int32 → Int32 → zM → Prop, (∀ x y N, fnd M N o s b (4 + bR n K B 1) x → C x y N) → ∀ e c, c + e = 4 + bR n K B 1 → 3 ≤ c + bR n K B 1 → ∀ x N, fnd M N o s b c x → lpX8_findsBest_84 o (nI (bR n K B 1)) (cd b) C (e + 1) x (cd c) N := by
    intro b ib C hC e
    induction e with
    | zero =>
      intro c hc hc3 x N fN
      obtain rfl : c = 4 + bR n K B 1 := by omega
      unfold lpX8_findsBest_84
      exact ⟨fun _ => hC _ _ N fN, fun q => absurd ((cd_lt (by omega) (by omega)).2 (by omega)) q⟩
    | succ e ih =>
      intro c hc hc3 x N fN
      have ic : ir n K B 1 c := ⟨by omega, by omega⟩
      have b6 := ir_le hg ib
      have c6 := ir_le hg ic
      have yh := y_hit (K := K) hg b6 c6
      have tl := bT_le (n := n) (K := K) (V := V) (B := B) (F := 1000000000) (g := gR (bA n K V B)) (n - 1) 3 b c
      have d1 := dv_le b6
      have d2 := dv_le c6
      unfold lpX8_findsBest_84
      refine ⟨fun q => absurd ((cd_lt (by omega) (by omega)).1 q) (by omega), fun _ => p8_place0 ⟨vp_of (by omega) (by omega), fun z x43 e43 => ?_, fun z => ?_⟩⟩
      · rw [e43, cd_s]
        refine ih (c + 1) (by omega) (by omega) x N ⟨fun q => fN.1 ?_, fun q => fN.2 (fun y => q (by omega))⟩
        by_cases w : s 0 < b ∨ (s 0 = b ∧ s 1 < c)
        · exact w
        · have := (fN.2 w).1
          rw [this] at z; exact absurd z (by decide)
      · have w : ¬ (s 0 < b ∨ (s 0 = b ∧ s 1 < c)) := fun w => z (fN.1 w).1
        obtain ⟨ex, eN⟩ := fN.2 w
        rw [eN]
        have et : M (o + 12) (343 * 0 + 49 * 3 + 7 * b + c) = nI (bT n K V B 1000000000 (gR (bA n K V B)) (n - 1) 3 b c) := ht 3 b c (ir_m1 n K B) ib ic
        rw [cl_of (by omega), et, h10]
        have go : ¬ (s 0 = b ∧ s 1 = c) → fnd M M o s b (c + 1) x := fun q => ⟨fun y => by
          exfalso
          exact w (by omega), fun _ => ⟨ex, rfl⟩⟩
        refine ⟨fun q x44 e44 => ?_, fun q => p8_size (p8_size (fun x47 e47 => ?_))⟩
        · have q : nI 1000000000 ≤ nI (bT n K V B 1000000000 (gR (bA n K V B)) (n - 1) 3 b c) := q
          rw [nI_leI (by omega) (by omega)] at q
          rw [e44, cd_s]
          refine ih (c + 1) (by omega) (by omega) x M (go (fun ⟨y1, y2⟩ => ?_))
          subst y1; subst y2
          have := yh.1 hx
          unfold hR at this
          rw [if_pos (by omega)] at this
          omega
        · have q : ¬ nI 1000000000 ≤ nI (bT n K V B 1000000000 (gR (bA n K V B)) (n - 1) 3 b c) := q
          rw [nI_leI (by omega) (by omega)] at q
          rw [cd_abs b6, cd_abs c6, nI_add, nI_add] at e47
          have eh : hR (bT n K V B 1000000000 (gR (bA n K V B)) (n - 1) 3 b c) b c = bT n K V B 1000000000 (gR (bA n K V B)) (n - 1) 3 b c + dv b + dv c := by unfold hR; rw [if_neg (by omega)]
          rw [← eh] at e47
          rw [e47]
          have hl := hR_lt tl b6 c6
          refine ⟨fun p x48 e48 => ?_, fun p M49 e49 M50 e50 x51 e51 => ?_⟩
          · rw [nI_eq hl (by omega)] at p
            rw [e48, cd_s]
            refine ih (c + 1) (by omega) (by omega) x M (go (fun ⟨y1, y2⟩ => ?_))
            subst y1; subst y2
            exact p (yh.1 hx)
          · rw [nI_eq hl (by omega)] at p
            have hh := yh.2 p
            have hsb : s 0 = b ∧ s 1 = c := by
              by_cases y : b < s 0 ∨ (b = s 0 ∧ c < s 1)
              · exact absurd hh (hm b c ib ic y)
              · omega
            rw [e51, cd_s]
            refine ih (c + 1) (by omega) (by omega) 0 M50 ⟨fun _ => ⟨rfl, fun y hy => ?_, ?_, ?_⟩, fun y => absurd (by omega) y⟩
            · rw [e50, va_up_ne _ _ hy, e49, va_up_ne _ _ hy]
            · rw [e50, va_up_self, e49, va_up_self, hsb.1]
              show upd (upd _ 0 _) 1 _ 0 = _
              rw [pk_un (by decide), pk_us]
            · rw [e50, va_up_self, hsb.2]
              exact pk_us
  have key1 : ∀ e b, b + e = 4 + bR n K B 0 → 3 ≤ b + bR n K B 0 → ∀ x N, fnd M N o s b (3 - bR n K B 1) x → lpX8_findsBest_73 o (nI (bR n K B 0)) (nI (bR n K B 1)) C (e + 1) x (cd b) N := by
    intro e
    induction e with
    | zero =>
      intro b hb hb3 x N fN
      unfold lpX8_findsBest_73
      obtain ⟨-, f1, f2, f3⟩ := fN.1 (by omega)
      exact ⟨fun _ => h _ _ N f1 f2 f3, fun q => absurd ((cd_lt (by omega) (by omega)).2 (by omega)) q⟩
    | succ e ih =>
      intro b hb hb3 x N fN
      unfold lpX8_findsBest_73
      rw [cd_neg rc]
      refine ⟨fun q => absurd ((cd_lt (by omega) (by omega)).1 q) (by omega), fun _ => ⟨_, key2 b ⟨by omega, by omega⟩ _ (fun x2 y2 N2 fN2 x41 e41 => ?_) (2 * bR n K B 1 + 1) (3 - bR n K B 1) (by omega) (by omega) x N fN⟩⟩
      rw [e41, cd_s]
      refine ih (b + 1) (by omega) (by omega) x2 N2 ⟨fun q => fN2.1 (by omega), fun q => fN2.2 (fun y => q (by omega))⟩
  exact ⟨_, key1 (2 * bR n K B 0 + 1) (3 - bR n K B 0) (by omega) (by omega) 1 M ⟨fun q => absurd q (by omega), fun _ => ⟨rfl, rfl⟩⟩⟩
theorem p8_rest {Q : zM → Prop} (hs : sr M o n K V B) (hg : rg n V B) (ht : ∀ k, k < n → tR (M (o + 12)) n K V B 1000000000 (gR (bA n K V B)) k) (hb : bSl n K V B s) {N0 : zM} (f0 : fr M N0 (o + 13)) (z0 : N0 (o + 13) 0 = cd (s 0)) (z1 : N0 (o + 13) 1 = cd (s 1)) (h : ∀ N, fr M N (o + 13) → (∀ k, k < n → N (o + 13) k = cd (s k)) → Q N) : ∃ fu, lpX8_findsBest_174 o (nI (bA n K V B)) Q fu (0 : Int32) N0 := by
  have h12 := hg.2.1
  have h3 := hg.1
  have hA := bA_le (K := K) hg
  have key : ∀ e k, k + 2 + e = n → ∀ N, fr M N (o + 13) → (∀ i, i < k + 2 → N (o + 13) i = cd (s i)) → lpX8_findsBest_174 o (nI (bA n K V B)) Q (e + 1) (nI k) N := by
    intro e
    induction e with
    | zero =>
      intro k hk N fN sN
      have hsN := sr_fr hs fN (by omega)
      unfold lpX8_findsBest_174
      rw [show N (o + 6) (0 : Int32).toNatClampNeg = nI n from hsN.1, show (2 : Int32) = nI 2 from rfl, nI_add]
      exact ⟨fun _ => h N fN (fun i hi => sN i (by omega)), fun q => absurd (nI_le (by omega) (by omega)) q⟩
    | succ e ih =>
      intro k hk N fN sN
      have hsN := sr_fr hs fN (by omega)
      have htN : ∀ k, k < n → tR (N (o + 12)) n K V B 1000000000 (gR (bA n K V B)) k := by rw [fN (o + 12) (by omega)]; exact ht
      obtain ⟨q0, q1, q2, q3⟩ := hb.2 k (by omega)
      have rd := bR_le (K := K) hg ((k : Int) + 2)
      have ia := ah_ir hb (show k < n by omega)
      have ib := bSl_ir hb (show k < n by omega)
      have ic : ir n K B ((k : Int) + 1) (s (k + 1)) := by
        have := bSl_ir hb (show k + 1 < n by omega)
        rwa [show ((k + 1 : Nat) : Int) = (k : Int) + 1 by omega] at this
      have q1' : 3 ≤ s (k + 2) + bR n K B ((k : Int) + 2) ∧ s (k + 2) ≤ 3 + bR n K B ((k : Int) + 2) := q1
      have a6 := ir_le hg ia
      have b6 := ir_le hg ib
      have c6 := ir_le hg ic
      have jn : ∀ x24, x24 = cd (ah s k) → jnX8_findsBest_205 o (nI (bA n K V B)) (nI k) N (lpX8_findsBest_174 o (nI (bA n K V B)) Q (e + 1)) x24 := by
        intro x24 e24
        unfold jnX8_findsBest_205
        rw [nI_1, cl_of (by omega), sN (k + 1) (by omega), e24]
        refine ⟨vp_of (by omega) (by omega), vp_of (by omega) (by omega), fun x25 e25 => p8_reachAt hg hsN.1 hsN.2.1 hsN.2.2.2 ?_⟩
        rw [t_p2 (by omega), cd_neg rd, e25]
        have lp : ∀ C : Int32 → Prop, C (cd (s (k + 2))) → ∀ e d, d + e = s (k + 2) → 3 ≤ d + bR n K B ((k : Int) + 2) → lpX8_findsBest_238 o (nI (bA n K V B)) (nI k) N (cd (ah s k)) (cd (s (k + 1))) C (e + 1) (cd d) := by
          intro C hC e
          induction e with
          | zero =>
            intro d hd hd3
            obtain rfl : d = s (k + 2) := by omega
            unfold lpX8_findsBest_238
            rw [cl_of (by omega), sN k (by omega)]
            refine p8_costBy (j := n - 2 - k) hsN hg (by omega) (by omega) (htN (k + 1) (by omega)) a6 ib ic q1 (p8_place ⟨vp_of (by omega) (by omega), ?_⟩)
            rw [cl_of (by omega), htN k (by omega) _ _ _ ia ib ic]
            exact ⟨fun _ => hC, fun q => absurd (congrArg nI ((c_hit hg (by omega) a6 b6 c6 (by omega) q0).1 q2)) q⟩
          | succ e ih =>
            intro d hd hd3
            have idd : ir n K B ((k : Int) + 2) d := ⟨by omega, by omega⟩
            have d6 := ir_le hg idd
            unfold lpX8_findsBest_238
            rw [cl_of (by omega), sN k (by omega)]
            refine p8_costBy (j := n - 2 - k) hsN hg (by omega) (by omega) (htN (k + 1) (by omega)) a6 ib ic idd (p8_place ⟨vp_of (by omega) (by omega), ?_⟩)
            rw [cl_of (by omega), htN k (by omega) _ _ _ ia ib ic]
            refine ⟨fun q => ?_, fun q x33 e33 => ?_⟩
            · exfalso
              have tl := bT_le (n := n) (K := K) (V := V) (B := B) (F := 1000000000) (g := gR (bA n K V B)) (n - 1 - k) (ah s k) (s k) (s (k + 1))
              rw [nI_eq (gR_lt (bS_le (K := K) hg (by omega) a6 b6 c6 d6) d6 (bT_le _ _ _ _)) (by omega)] at q
              exact q3 d idd (by omega) ((c_hit hg (by omega) a6 b6 c6 d6 q0).2 q)
            · rw [e33, cd_s]
              exact ih (d + 1) (by omega) (by omega)
        refine ⟨_, lp _ ⟨?_, fun M29 e29 x30 e30 => ?_⟩ (s (k + 2) - (3 - bR n K B ((k : Int) + 2))) (3 - bR n K B ((k : Int) + 2)) (by omega) (by omega)⟩
        · rw [show (2 : Int32) = nI 2 from rfl, nI_add]; exact vp_of (by omega) (by omega)
        · rw [show (2 : Int32) = nI 2 from rfl, nI_add, cl_of (by omega)] at e29
          rw [e30]
          refine ih (k + 1) (by omega) M29 (fr_up fN e29) (fun i hi => ?_)
          rw [e29, va_up_self]
          by_cases c : i = k + 2
          · subst c; rw [pk_us]
          · rw [pk_un c]; exact sN i (by omega)
      unfold lpX8_findsBest_174
      rw [show N (o + 6) (0 : Int32).toNatClampNeg = nI n from hsN.1]
      refine ⟨fun q => ?_, fun _ => ⟨fun q => jn _ ?_, fun q => ?_⟩⟩
      · rw [show (2 : Int32) = nI 2 from rfl, nI_add] at q
        exact absurd q (nI_ge (by omega) (by omega))
      · rw [n_le0 (by omega)] at q
        unfold ah
        rw [if_pos q, cd_3]
      · rw [n_le0 (by omega)] at q
        rw [nm1 (by omega), cl_of (by omega)]
        refine ⟨vp_of (by omega) (by omega), fun x34 e34 => jn _ ?_⟩
        rw [e34, sN (k - 1) (by omega)]
        unfold ah
        rw [if_neg q]
  exact ⟨_, key (n - 2) 0 (by omega) N0 f0 (fun i hi => by
    rcases (show i = 0 ∨ i = 1 by omega) with rfl | rfl
    · exact z0
    · exact z1)⟩
theorem p8_findsBest {Q : zM → Prop} (hs : sr M o n K V B) (hg : rg n V B) (hb : bSl n K V B s) (h : ∀ N, (∀ x, x ≠ o → x ≠ o + 12 → x ≠ o + 13 → N x = M x) → (∀ k, k ≠ 9 → k ≠ 10 → N o k = M o k) → N o 9 = nI (bA n K V B) → N o 10 = nI (bM n K V B (bA n K V B)) → (∀ k, k < n → N (o + 13) k = cd (s k)) → Q N) : wX8_findsBest M o Q := by
  have hA := bA_le (K := K) hg
  have h3 := hg.1
  have h12 := hg.2.1
  have rb := bR_le (K := K) hg 0
  have lp : ∀ C : Int32 → Int32 → zM → Prop, (∀ y N, fr M N (o + 12) → C (nI (bA n K V B)) y N) → ∀ e lo hi, hi ≤ lo + e → lo ≤ bA n K V B → bA n K V B ≤ hi → hi ≤ 4100 → ∀ N, fr M N (o + 12) → lpX8_findsBest_6 o C (e + 1) (nI lo) (nI hi) N := by
    intro C hC e
    induction e with
    | zero =>
      intro lo hi h1 h2 h3 h4 N fN
      unfold lpX8_findsBest_6
      obtain rfl : lo = bA n K V B := by omega
      exact ⟨fun _ => hC _ N fN, fun q => absurd (nI_le (by omega) (by omega)) q⟩
    | succ e ih =>
      intro lo hi h1 h2 h3 h4 N fN
      unfold lpX8_findsBest_6
      rw [nI_add, show (2 : Int32) = nI 2 from rfl, pk_div (by omega) (by omega) (by omega), nI_1]
      refine ⟨fun q => ?_, fun q => p8_reckons (w := (lo + hi) / 2) (sr_fr hs fN (by omega)) hg (by omega) (fun N2 fN2 _ => ?_)⟩
      · rw [nI_leI (by omega) (by omega)] at q
        obtain rfl : lo = bA n K V B := by omega
        exact hC _ N fN
      · rw [nI_leI (by omega) (by omega)] at q
        have fe := bM_feas (K := K) hg (w := (lo + hi) / 2) (by omega)
        have ml : bM n K V B ((lo + hi) / 2) ≤ 1000000000 := mn2_le _
        have fM : fr M N2 (o + 12) := fun x hx => by rw [fN2 x hx, fN x hx]
        refine ⟨fun z => ?_, fun z => ?_⟩
        · have z : nI 1000000000 ≤ nI (bM n K V B ((lo + hi) / 2)) := z
          rw [nI_leI (by omega) (by omega)] at z
          have : ¬ bA n K V B ≤ (lo + hi) / 2 := fun y => by have := fe.2 y; omega
          exact ih _ _ (by omega) (by omega) (by omega) (by omega) N2 fM
        · have z : ¬ nI 1000000000 ≤ nI (bM n K V B ((lo + hi) / 2)) := z
          rw [nI_leI (by omega) (by omega)] at z
          have := fe.1 (by omega)
          exact ih _ _ (by omega) (by omega) (by omega) (by omega) N2 fM
  unfold wX8_findsBest
  refine ⟨_, lp _ (fun y N fN M9 e9 => ?_) 4100 0 4100 (by omega) (by omega) (by omega) (by omega) M (fun _ _ => rfl)⟩
  have sro : ∀ {M N : zM}, sr M o n K V B → (∀ x, x ≠ o → N x = M x) → sr N o n K V B := fun {M N} a b => by
    unfold sr
    rw [b (o + 6) (by omega)]
    exact a
  have s9 := sro (sr_fr hs fN (by omega)) (N := M9) (fun x hx => by rw [e9, va_up_ne _ _ hx])
  refine p8_reckons s9 hg (by omega) (fun M11 f11 t11 M12 e12 => ?_)
  have f12 : ∀ x, x ≠ o → M12 x = M11 x := fun x hx => by rw [e12, va_up_ne _ _ hx]
  have s12 := sro (sr_fr s9 f11 (by omega)) f12
  have g12 : M12 o = upd (upd (M o) 9 (nI (bA n K V B))) 10 (nI (bM n K V B (bA n K V B))) := by
    rw [e12, va_up_self, f11 o (by omega), e9, va_up_self, fN o (by omega)]
  have t12 : ∀ k, k < n → tR (M12 (o + 12)) n K V B 1000000000 (gR (bA n K V B)) k := by rw [f12 (o + 12) (by omega)]; exact t11
  refine p8_reachAt hg s12.1 s12.2.1 s12.2.2.2 (p8_reachAt hg s12.1 s12.2.1 s12.2.2.2 ?_)
  rw [t0, t1, cd_neg rb]
  refine p8_first hg (by rw [g12, pk_us]) (t12 0 (by omega)) hb.1 (fun x y N0 f0 z0 z1 => p8_rest s12 hg t12 hb f0 z0 z1 (fun N2 fN2 sN2 => ?_))
  have gN := (fN2 o (by omega)).trans g12
  refine h N2 (fun x h1 h2 h3 => ?_) (fun k h1 h2 => ?_) ?_ ?_ sN2
  · rw [fN2 x h3, f12 x h1, f11 x h2, e9, va_up_ne _ _ h1, fN x h2]
  · rw [gN, pk_un h2, pk_un h1]
  · rw [gN, pk_un (by decide), pk_us]
  · rw [gN, pk_us]
end RC
