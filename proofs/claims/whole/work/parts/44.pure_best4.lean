/-! PURE: best(), the class's slews; what it keeps -/
section SC
variable {M : zM} {o n : Nat} {K V B : Nat → Int32} {s : Nat → Nat}
theorem xC_lt (hg : rg n V B) {b c : Nat} (hb : b ≤ 6) (hc : c ≤ 6) : xC n K V B b c < 2 ^ 31 := hC_lt (bT_le _ _ _ _) hb hc
theorem p4_pickFirst {Q : zM → Prop} (hs : sk M o n K V B) (hg : rg n V B) (hl : M o 3 = lm (some (bA n K V B))) (ht : tR (M (o + 6)) n K V B 268435456 (gC (some (bA n K V B))) 0) (h0 : sp0 n K V B s) (h : ∀ N, fr M N (o + 7) → N (o + 7) 0 = cd (s 0) → N (o + 7) 1 = cd (s 1) → Q N) : wX4_pickFirst M o (nI (bL n K V B)) Q := by
  have rb := bR_le (K := K) hg 0
  have rc := bR_le (K := K) hg 1
  have hA := bA_le (K := K) hg
  have hL := bL_lt (K := K) hg
  have hw : ∀ x, some (bA n K V B) = some x → x ≤ 5000 := fun x e => by cases e; omega
  obtain ⟨i0, i1, hx, hm⟩ := h0
  have i0' : 3 ≤ s 0 + bR n K B 0 ∧ s 0 ≤ 3 + bR n K B 0 := i0
  have i1' : 3 ≤ s 1 + bR n K B 1 ∧ s 1 ≤ 3 + bR n K B 1 := i1
  unfold wX4_pickFirst
  refine p2_reachI hg hs.1 hs.2.1 hs.2.2.2 (p2_reachI hg hs.1 hs.2.1 hs.2.2.2 ?_)
  rw [t0, t1, cd_neg rb]
  have hit : ∀ C1 C2 : Int32 → Prop, C2 (cd (s 1)) → ∀ e c, c + e = s 1 → 3 ≤ c + bR n K B 1 → lpX4_pickFirst_32 M o (nI (bL n K V B)) (nI (bR n K B 1)) (cd (s 0)) C1 C2 (e + 1) (cd c) := by
    intro C1 C2 hC e
    induction e with
    | zero =>
      intro c hc hc3
      obtain rfl : c = s 1 := by omega
      unfold lpX4_pickFirst_32
      refine ⟨fun q => absurd ((cd_lt (by omega) (by omega)).1 q) (by omega), fun _ => p4_costOfFirst hg hl hw ht i0 i1 ⟨fun q => absurd (congrArg nI hx) q, fun _ => hC⟩⟩
    | succ e ih =>
      intro c hc hc3
      have ic : ir n K B 1 c := ⟨by omega, by omega⟩
      unfold lpX4_pickFirst_32
      refine ⟨fun q => absurd ((cd_lt (by omega) (by omega)).1 q) (by omega), fun _ => p4_costOfFirst hg hl hw ht i0 ic ⟨fun _ x16 e16 => ?_, fun q => ?_⟩⟩
      · rw [e16, cd_s]; exact ih (c + 1) (by omega) (by omega)
      · exfalso
        have q : nI (xC n K V B (s 0) c) = nI (bL n K V B) := q
        rw [nI_eq (xC_lt hg (ir_le hg i0) (ir_le hg ic)) (by omega)] at q
        exact hm (s 0) c i0 ic (Or.inr ⟨rfl, by omega⟩) q
  have mis : ∀ b, ir n K B 0 b → b < s 0 → ∀ C1 C2 : Int32 → Prop, (∀ x, C1 x) → ∀ e c, c + e = 4 + bR n K B 1 → 3 ≤ c + bR n K B 1 → lpX4_pickFirst_32 M o (nI (bL n K V B)) (nI (bR n K B 1)) (cd b) C1 C2 (e + 1) (cd c) := by
    intro b ib hb C1 C2 hC e
    induction e with
    | zero =>
      intro c hc hc3
      unfold lpX4_pickFirst_32
      exact ⟨fun _ => hC _, fun q => absurd ((cd_lt (by omega) (by omega)).2 (by omega)) q⟩
    | succ e ih =>
      intro c hc hc3
      have ic : ir n K B 1 c := ⟨by omega, by omega⟩
      unfold lpX4_pickFirst_32
      refine ⟨fun q => absurd ((cd_lt (by omega) (by omega)).1 q) (by omega), fun _ => p4_costOfFirst hg hl hw ht ib ic ⟨fun _ x16 e16 => ?_, fun q => ?_⟩⟩
      · rw [e16, cd_s]; exact ih (c + 1) (by omega) (by omega)
      · exfalso
        have q : nI (xC n K V B b c) = nI (bL n K V B) := q
        rw [nI_eq (xC_lt hg (ir_le hg ib) (ir_le hg ic)) (by omega)] at q
        exact hm b c ib ic (Or.inl hb) q
  have out : ∀ C2 : Int32 → Int32 → Prop, C2 (cd (s 0)) (cd (s 1)) → ∀ e b, b + e = s 0 → 3 ≤ b + bR n K B 0 → lpX4_pickFirst_22 M o (nI (bL n K V B)) (nI (bR n K B 0)) (nI (bR n K B 1)) Q C2 (e + 1) (cd b) := by
    intro C2 hC e
    induction e with
    | zero =>
      intro b hb hb3
      obtain rfl : b = s 0 := by omega
      unfold lpX4_pickFirst_22
      rw [cd_neg rc]
      exact ⟨fun q => absurd ((cd_lt (by omega) (by omega)).1 q) (by omega), fun _ => ⟨_, hit _ _ hC (s 1 - (3 - bR n K B 1)) (3 - bR n K B 1) (by omega) (by omega)⟩⟩
    | succ e ih =>
      intro b hb hb3
      unfold lpX4_pickFirst_22
      rw [cd_neg rc]
      refine ⟨fun q => absurd ((cd_lt (by omega) (by omega)).1 q) (by omega), fun _ => ⟨_, mis b ⟨by omega, by omega⟩ (by omega) _ _ (fun x x13 e13 => ?_) (2 * bR n K B 1 + 1) (3 - bR n K B 1) (by omega) (by omega)⟩⟩
      rw [e13, cd_s]
      exact ih (b + 1) (by omega) (by omega)
  refine ⟨_, out _ (fun M9 e9 M10 e10 => ?_) (s 0 - (3 - bR n K B 0)) (3 - bR n K B 0) (by omega) (by omega)⟩
  refine h M10 (fun x hx => by rw [e10, va_up_ne _ _ hx, e9, va_up_ne _ _ hx]) ?_ ?_
  · rw [e10, va_up_self, e9, va_up_self]
    show upd (upd _ 0 _) 1 _ 0 = _
    rw [pk_un (by decide), pk_us]
  · rw [e10, va_up_self]
    exact pk_us
theorem p4_pickNext {k a b c d0 : Nat} {Q : Int32 → Prop} (hs : sk M o n K V B) (hg : rg n V B) (hl : M o 3 = lm (some (bA n K V B))) (ht : ∀ k, k < n → tR (M (o + 6)) n K V B 268435456 (gC (some (bA n K V B))) k) (hk : k + 2 < n) (ia : ir n K B ((k : Int) - 1) a) (ib : ir n K B (k : Int) b) (ic : ir n K B ((k : Int) + 1) c) (id : ir n K B ((k : Int) + 2) d0) (he : cC n K V B k a b c d0 = tC n K V B (n - 1 - k) a b c) (hm : ∀ d, ir n K B ((k : Int) + 2) d → d < d0 → ¬ cC n K V B k a b c d = tC n K V B (n - 1 - k) a b c) (h : Q (cd d0)) : wX4_pickNext M o (nI k) (cd a) (cd b) (cd c) Q := by
  have h12 := hg.2.1
  have hA := bA_le (K := K) hg
  have hw : ∀ x, some (bA n K V B) = some x → x ≤ 5000 := fun x e => by cases e; omega
  have ha := ir_le hg ia
  have hb := ir_le hg ib
  have hc := ir_le hg ic
  have rd := bR_le (K := K) hg ((k : Int) + 2)
  have id' : 3 ≤ d0 + bR n K B ((k : Int) + 2) ∧ d0 ≤ 3 + bR n K B ((k : Int) + 2) := id
  unfold wX4_pickNext
  refine p2_reachI hg hs.1 hs.2.1 hs.2.2.2 (p4_placeOf ⟨vp_of (by omega) (by omega), p4_leanOf hs hg (by omega) ha hb hc (fun r9 e9 => ?_)⟩)
  rw [t_p2 (by omega), cd_neg rd]
  have due : M (o + 6) (343 * k + 49 * a + 7 * b + c) = nI (tC n K V B (n - 1 - k) a b c) := ht k (by omega) a b c ia ib ic
  have dl : tC n K V B (n - 1 - k) a b c ≤ 268435456 := bT_le _ _ _ _
  have body : ∀ C : Int32 → Prop, ∀ d, ir n K B ((k : Int) + 2) d → ((¬ cC n K V B k a b c d = tC n K V B (n - 1 - k) a b c → C (cd (d + 1))) ∧ (cC n K V B k a b c d = tC n K V B (n - 1 - k) a b c → Q (cd d))) → ∀ x12, x12 = nI (bS K V k a b c d) → jnX4_pickNext_73 M o (nI k) (cd b) (cd c) (nI (343 * k + 49 * a + 7 * b + c)) (cd d) Q C x12 := by
    intro C d idd hq x12 e12
    have hd := ir_le hg idd
    have hs6 := bS_le (K := K) hg (show k + 1 < n by omega) ha hb hc hd
    have tl := bT_le (n := n) (K := K) (V := V) (B := B) (F := 268435456) (g := gC (some (bA n K V B))) (n - 2 - k) b c d
    unfold jnX4_pickNext_73
    rw [nI_1]
    refine p4_placeOf ⟨vp_of (by omega) (by omega), ?_⟩
    rw [cl_of (by omega), cl_of (by omega), tR_s (j := n - 2 - k) (ht (k + 1) (by omega)) (by omega) ib ic idd, due, e12]
    refine p4_costOf hl hw hs6 hd tl ?_
    have gl : cC n K V B k a b c d < 2 ^ 31 := by
      have := dv_le hd
      show (if bA n K V B < bS K V k a b c d then 268435456 else if tC n K V B (n - 2 - k) b c d < 268435456 then 64 * bS K V k a b c d + dv d + tC n K V B (n - 2 - k) b c d else 268435456) < 2 ^ 31
      split
      · omega
      · split <;> omega
    refine ⟨fun q x15 e15 => ?_, fun q => ?_⟩
    · have q : ¬ nI (cC n K V B k a b c d) = nI (tC n K V B (n - 1 - k) a b c) := q
      rw [e15, cd_s]
      exact hq.1 (fun z => q (congrArg nI z))
    · have q : nI (cC n K V B k a b c d) = nI (tC n K V B (n - 1 - k) a b c) := q
      rw [nI_eq gl (by omega)] at q
      exact hq.2 q
  have key : ∀ e d, d + e = d0 → 3 ≤ d + bR n K B ((k : Int) + 2) → lpX4_pickNext_43 M o (nI k) (cd b) (cd c) (nI (bR n K B ((k : Int) + 2))) (nI (343 * k + 49 * a + 7 * b + c)) r9 Q (e + 1) (cd d) := by
    intro e
    induction e with
    | zero =>
      intro d hd hd3
      obtain rfl : d = d0 := by omega
      unfold lpX4_pickNext_43
      refine ⟨fun q => absurd ((cd_lt (by omega) (by omega)).1 q) (by omega), fun _ => p2_isEased hs.1 h12 (by omega) ?_⟩
      rw [hs.2.1 k (by omega), hs.2.1 (k + 1) (by omega)]
      refine ⟨fun z => body _ d id ⟨fun q => absurd he q, fun _ => h⟩ _ ?_, fun z => body _ d id ⟨fun q => absurd he q, fun _ => h⟩ _ ?_⟩
      · have hn : ¬ (K k = 3 ∨ K (k + 1) = 3) := fun q => by rw [if_pos q] at z; exact absurd z (by decide)
        exact st_abs hg (by omega) ha hb hc (by omega) hn e9
      · have hn : K k = 3 ∨ K (k + 1) = 3 := by
          by_cases q : K k = 3 ∨ K (k + 1) = 3
          · exact q
          · rw [if_neg q] at z; exact absurd rfl z
        unfold bS
        rw [if_pos hn]; rfl
    | succ e ih =>
      intro d hd hd3
      have idd : ir n K B ((k : Int) + 2) d := ⟨by omega, by omega⟩
      have nx := ih (d + 1) (by omega) (by omega)
      have ne := hm d idd (by omega)
      unfold lpX4_pickNext_43
      refine ⟨fun q => absurd ((cd_lt (by omega) (by omega)).1 q) (by omega), fun _ => p2_isEased hs.1 h12 (by omega) ?_⟩
      rw [hs.2.1 k (by omega), hs.2.1 (k + 1) (by omega)]
      refine ⟨fun z => body _ d idd ⟨fun _ => nx, fun q => absurd q ne⟩ _ ?_, fun z => body _ d idd ⟨fun _ => nx, fun q => absurd q ne⟩ _ ?_⟩
      · have hn : ¬ (K k = 3 ∨ K (k + 1) = 3) := fun q => by rw [if_pos q] at z; exact absurd z (by decide)
        exact st_abs hg (by omega) ha hb hc (by omega) hn e9
      · have hn : K k = 3 ∨ K (k + 1) = 3 := by
          by_cases q : K k = 3 ∨ K (k + 1) = 3
          · exact q
          · rw [if_neg q] at z; exact absurd rfl z
        unfold bS
        rw [if_pos hn]; rfl
  exact ⟨_, key (d0 - (3 - bR n K B ((k : Int) + 2))) (3 - bR n K B ((k : Int) + 2)) (by omega) (by omega)⟩
theorem p4_pickSlews {Q : zM → Prop} (hs : sk M o n K V B) (hg : rg n V B) (hl : M o 3 = lm (some (bA n K V B))) (ht : ∀ k, k < n → tR (M (o + 6)) n K V B 268435456 (gC (some (bA n K V B))) k) (hb : bSl n K V B s) (h : ∀ N, fr M N (o + 7) → (∀ k, k < n → N (o + 7) k = cd (s k)) → Q N) : wX4_pickSlews M o (nI (bL n K V B)) Q := by
  have h12 := hg.2.1
  have h3 := hg.1
  unfold wX4_pickSlews
  refine p4_pickFirst hs hg hl (ht 0 (by omega)) hb.1 (fun N0 f0 z0 z1 => ?_)
  have key : ∀ e k, k + 2 + e = n → ∀ N, fr M N (o + 7) → (∀ i, i < k + 2 → N (o + 7) i = cd (s i)) → lpX4_pickSlews_9 o Q (e + 1) (cd (ah s k)) (nI k) N := by
    intro e
    induction e with
    | zero =>
      intro k hk N fN sN
      have hsN := sk_fr hs fN (by omega)
      unfold lpX4_pickSlews_9
      rw [hsN.1, show (2 : Int32) = nI 2 from rfl, nI_add]
      exact ⟨fun _ => h N fN (fun i hi => sN i (by omega)), fun q => absurd (nI_le (by omega) (by omega)) q⟩
    | succ e ih =>
      intro k hk N fN sN
      have hsN := sk_fr hs fN (by omega)
      obtain ⟨-, q1, q2, q3⟩ := hb.2 k (by omega)
      unfold lpX4_pickSlews_9
      rw [hsN.1, nI_1, show (2 : Int32) = nI 2 from rfl, nI_add, cl_of (by omega), cl_of (by omega), cl_of (by omega), sN k (by omega), sN (k + 1) (by omega)]
      refine ⟨fun q => absurd q (nI_ge (by omega) (by omega)), fun _ => ⟨vp_of (by omega) (by omega), vp_of (by omega) (by omega), p4_pickNext hsN hg (by rw [fN o (by omega)]; exact hl) (by rw [fN (o + 6) (by omega)]; exact ht) (by omega) (ah_ir hb (by omega)) (bSl_ir hb (by omega)) ?_ q1 q2 q3 ⟨vp_of (by omega) (by omega), fun M9 e9 => ⟨vp_of (by omega) (by omega), fun x10 e10 => ?_⟩⟩⟩⟩
      · have := bSl_ir hb (show k + 1 < n by omega)
        rwa [show ((k + 1 : Nat) : Int) = (k : Int) + 1 by omega] at this
      · have s9 : ∀ i, i < k + 1 + 2 → M9 (o + 7) i = cd (s i) := fun i hi => by
          rw [e9, va_up_self]
          by_cases c : i = k + 2
          · subst c; rw [pk_us]
          · rw [pk_un c]; exact sN i (by omega)
        rw [e10, s9 k (by omega)]
        have := ih (k + 1) (by omega) M9 (fr_up fN e9) s9
        rwa [show ah s (k + 1) = s k by unfold ah; rw [if_neg (by omega)]; rfl] at this
  have k0 := key (n - 2) 0 (by omega) N0 f0 (fun i hi => by
    rcases (show i = 0 ∨ i = 1 by omega) with rfl | rfl
    · exact z0
    · exact z1)
  rw [show ah s 0 = 3 from rfl, cd_3] at k0
  exact ⟨_, k0⟩
/-- what the search keeps -/
def kp (M : zM) (o n : Nat) (K V B : Nat → Int32) (s : Nat → Nat) : Prop := M o 0 = nI (bA n K V B) ∧ M o 1 = nI (bL n K V B / 64) ∧ M o 2 = nI (bL n K V B % 64) ∧ ∀ k, k < n → M (o + 7) k = cd (s k)
theorem p4_find {Q : zM → Prop} (hs : sk M o n K V B) (hg : rg n V B) (h : ∀ N s, (∀ x, x ≠ o → x ≠ o + 6 → x ≠ o + 7 → N x = M x) → bSl n K V B s → kp N o n K V B s → Q N) :
    ∀ M6 : zM, M6 = va_up M o (upd (M o) 3 (-1 : Int32)) →
    wX4_fillTable M6 o (fun M7 =>
    wX4_leastOfAll M7 o (fun r8 =>
    ∀ M9 : zM, M9 = va_up M7 o (upd (M7 o) 0 r8) →
    ∀ M10 : zM, M10 = va_up M9 o (upd (M9 o) 3 (M9 o 0)) →
    wX4_fillTable M10 o (fun M11 =>
    wX4_leastOfAll M11 o (fun r12 =>
    ∀ M13 : zM, M13 = va_up M11 o (upd (M11 o) 1 (r12 / (64 : Int32))) →
    ∀ M14 : zM, M14 = va_up M13 o (upd (M13 o) 2 (r12 - r12 / (64 : Int32) * (64 : Int32))) →
    wX4_pickSlews M14 o r12 (fun M15 =>
    Q M15))))) := by
  have hA := bA_le (K := K) hg
  have hL := bL_lt (K := K) hg
  have h3 := hg.1
  obtain ⟨s, hb⟩ := bSl_ex (K := K) hg
  have sko : ∀ {M N : zM}, sk M o n K V B → (∀ x, x ≠ o → N x = M x) → sk N o n K V B := fun {M N} a b => by
    unfold sk
    rw [b (o + 1) (by omega), b (o + 1 + 1) (by omega), b (o + 1 + 2) (by omega), b (o + 1 + 3) (by omega)]
    exact a
  intro M6 e6
  have s6 := sko hs (N := M6) (fun x hx => by rw [e6, va_up_ne _ _ hx])
  refine p4_fillTable (w := none) s6 hg (by rw [e6, va_up_self, pk_us]; rfl) (fun x e => by cases e) (fun M7 f7 t7 => ?_)
  have s7 := sk_fr s6 f7 (by omega)
  refine p4_leastOfAll (w := none) s7 hg (by rw [f7 o (by omega), e6, va_up_self, pk_us]; rfl) (fun x e => by cases e) (t7 0 (by omega)) (fun M9 e9 M10 e10 => ?_)
  have g9 : M9 o 0 = nI (bA n K V B) := by rw [e9, va_up_self, pk_us]; rfl
  have s10 := sko s7 (N := M10) (fun x hx => by rw [e10, va_up_ne _ _ hx, e9, va_up_ne _ _ hx])
  have l10 : M10 o 3 = lm (some (bA n K V B)) := by rw [e10, va_up_self, pk_us, g9]; rfl
  have w10 : M10 o 0 = nI (bA n K V B) := by rw [e10, va_up_self, pk_un (by decide), g9]
  refine p4_fillTable (w := some (bA n K V B)) s10 hg l10 (fun x e => by cases e; omega) (fun M11 f11 t11 => ?_)
  have s11 := sk_fr s10 f11 (by omega)
  refine p4_leastOfAll (w := some (bA n K V B)) s11 hg (by rw [f11 o (by omega)]; exact l10) (fun x e => by cases e; omega) (t11 0 (by omega)) (fun M13 e13 M14 e14 => ?_)
  have g13 : M13 o = upd (M10 o) 1 (nI (bL n K V B / 64)) := by
    rw [e13, va_up_self, f11 o (by omega), show (64 : Int32) = nI 64 from rfl]
    congr 1
    exact pk_div (a := bL n K V B) (by omega) (by omega) (by omega)
  have g14 : M14 o = upd (upd (M10 o) 1 (nI (bL n K V B / 64))) 2 (nI (bL n K V B % 64)) := by
    rw [e14, va_up_self, g13, show (64 : Int32) = nI 64 from rfl]
    congr 1
    exact pk_rem (a := bL n K V B) (by omega) (by omega) (by omega)
  have f14 : ∀ x, x ≠ o → M14 x = M11 x := fun x hx => by rw [e14, va_up_ne _ _ hx, e13, va_up_ne _ _ hx]
  have s14 := sko s11 f14
  refine p4_pickSlews (s := s) s14 hg (by rw [g14, pk_un (by decide), pk_un (by decide)]; exact l10) (by rw [f14 (o + 6) (by omega)]; exact t11) hb (fun N fN sN => ?_)
  have gN := fN o (by omega)
  refine h N s (fun x h1 h2 h3 => ?_) hb ⟨?_, ?_, ?_, sN⟩
  · rw [fN x h3, f14 x h1, f11 x h2, e10, va_up_ne _ _ h1, e9, va_up_ne _ _ h1, f7 x h2, e6, va_up_ne _ _ h1]
  · rw [gN, g14, pk_un (by decide), pk_un (by decide)]; exact w10
  · rw [gN, g14, pk_un (by decide), pk_us]
  · rw [gN, g14, pk_us]
theorem p2_isLike {o1 : Nat} {Q : Int32 → Prop} (hn : M o1 0 = nI n) (h12 : n ≤ 12) (hy : M o 0 = nI n → (∀ k, k < n → M (o + 1) k = M (o1 + 1) k ∧ M (o + 2) k = M (o1 + 2) k ∧ M (o + 3) k = M (o1 + 3) k) → Q 1) (hq : Q 0) : wX2_isLike M o o1 Q := by
  unfold wX2_isLike
  refine ⟨fun c => ?_, fun _ => hq⟩
  rw [hn] at c
  have key : ∀ e i, i + e = n → (∀ k, k < i → M (o + 1) k = M (o1 + 1) k ∧ M (o + 2) k = M (o1 + 2) k ∧ M (o + 3) k = M (o1 + 3) k) → lpX2_isLike_15 M o o1 Q (e + 1) (nI i) := by
    intro e
    induction e with
    | zero =>
      intro i hi hk
      obtain rfl : i = n := by omega
      unfold lpX2_isLike_15
      rw [c]
      exact ⟨fun _ => hy c hk, fun q => absurd (nI_le (Nat.le_refl _) (by omega)) q⟩
    | succ e ih =>
      intro i hi hk
      unfold lpX2_isLike_15
      rw [c, cl_of (by omega)]
      have v := vp_of (n := i) (N := 12) (by omega) (by omega)
      refine ⟨fun q => absurd q (nI_ge (by omega) (by omega)), fun _ => ⟨v, v, fun _ => hq, fun q1 => ⟨v, v, fun _ => hq, fun q2 => ⟨v, v, fun q3 x5 e5 => ?_, fun _ => hq⟩⟩⟩⟩
      rw [e5, nI_1]
      exact ih (i + 1) (by omega) (lt_s (p := fun k => M (o + 1) k = M (o1 + 1) k ∧ M (o + 2) k = M (o1 + 2) k ∧ M (o + 3) k = M (o1 + 3) k) hk ⟨q1, q2, q3⟩)
  exact ⟨_, key n 0 (by omega) (fun k hk => by omega)⟩
end SC
/-- a row of numbers, 0 behind its end -/
def ct (n : Nat) (f : Nat → Int32) : Nat → Int32 := fun k => if k < n then f k else 0
theorem ct_in {n k : Nat} {f : Nat → Int32} (h : k < n) : ct n f k = f k := if_pos h
theorem ct_of {n : Nat} {f g : Nat → Int32} (h : ∀ k, k < n → f k = g k) : ct n f = ct n g := by
  funext k
  unfold ct
  by_cases c : k < n
  · rw [if_pos c, if_pos c, h k c]
  · rw [if_neg c, if_neg c]
/-- what best() keeps: nothing yet, or what it found for the rail that it knows -/
def sS (M : zM) : Prop := M 169 0 = 0 ∨ ∃ n s, M 169 0 = nI n ∧ n ≤ 12 ∧ bSl n (ct n (M 170)) (ct n (M 171)) (ct n (M 172)) s ∧ kp M 168 n (ct n (M 170)) (ct n (M 171)) (ct n (M 172)) s
theorem sS_own : sOwn sS := by
  intro M N h e
  unfold sS kp at *
  rw [e 168 (by omega) (by omega), e 169 (by omega) (by omega), e 170 (by omega) (by omega), e 171 (by omega) (by omega), e 172 (by omega) (by omega), show N (168 + 7) = M (168 + 7) from e 175 (by omega) (by omega)]
  exact h
/-- solve(), for the rail that is there -/
theorem p4_solve {M : zM} {n : Nat} {Q : zM → Prop} (hS : sS M) (hn : M 20 0 = nI n) (hg : rg n (ct n (M 22)) (ct n (M 23))) (h : ∀ N s, (∀ x, (x < 168 ∨ 176 ≤ x) → N x = M x) → sS N → bSl n (ct n (M 21)) (ct n (M 22)) (ct n (M 23)) s → kp N 168 n (ct n (M 21)) (ct n (M 22)) (ct n (M 23)) s → Q N) : wX4_solve M 168 20 Q := by
  have h12 := hg.2.1
  have h3 := hg.1
  unfold wX4_solve
  refine p2_isLike (o := 169) (o1 := 20) hn h12 (fun hp hl => ⟨fun q => absurd q (by decide), fun _ => ?_⟩) ⟨fun _ => ?_, fun q => absurd rfl q⟩
  · rcases hS with z | ⟨m, s, e1, e2, e3, e4⟩
    · exfalso
      have hp : M 169 0 = nI n := hp
      rw [z, pn_eq, t0, pn_n (by omega)] at hp
      omega
    · have hp : M 169 0 = nI n := hp
      rw [e1, nI_eq (by omega) (by omega)] at hp
      subst hp
      have k1 : ct m (M 170) = ct m (M 21) := ct_of (fun k hk => (hl k hk).1)
      have k2 : ct m (M 171) = ct m (M 22) := ct_of (fun k hk => (hl k hk).2.1)
      have k3 : ct m (M 172) = ct m (M 23) := ct_of (fun k hk => (hl k hk).2.2)
      have hS2 : sS M := Or.inr ⟨m, s, e1, e2, e3, e4⟩
      rw [k1, k2, k3] at e3 e4
      exact h M s (fun _ _ => rfl) hS2 e3 e4
  · refine p2_become (o0 := 169) (o1 := 20) (n := n) hn h12 (by omega) (fun A hA => ?_)
    obtain ⟨a1, a2, a3, a4⟩ := hA
    have a2 : A 169 0 = nI n := a2.trans hn
    have sA : sk A 168 n (ct n (M 21)) (ct n (M 22)) (ct n (M 23)) := ⟨a2, fun k hk => by rw [ct_in hk]; exact (a4 k hk).1, fun k hk => by rw [ct_in hk]; exact (a4 k hk).2.1, fun k hk => by rw [ct_in hk]; exact (a4 k hk).2.2.1⟩
    refine p4_find sA hg (fun N s fN bN kN => ?_)
    have g : ∀ x, x ≠ 168 → x ≠ 174 → x ≠ 175 → N x = A x := fN
    refine h N s (fun x hx => by rw [g x (by omega) (by omega) (by omega), a1 x (by omega)]) (Or.inr ⟨n, s, ?_, h12, ?_⟩) bN kN
    · rw [g 169 (by decide) (by decide) (by decide)]; exact a2
    · have k1 : ct n (N 170) = ct n (M 21) := ct_of (fun k hk => by rw [g 170 (by decide) (by decide) (by decide)]; exact (a4 k hk).1)
      have k2 : ct n (N 171) = ct n (M 22) := ct_of (fun k hk => by rw [g 171 (by decide) (by decide) (by decide)]; exact (a4 k hk).2.1)
      have k3 : ct n (N 172) = ct n (M 23) := ct_of (fun k hk => by rw [g 172 (by decide) (by decide) (by decide)]; exact (a4 k hk).2.2.1)
      rw [k1, k2, k3]
      exact ⟨bN, kN⟩
