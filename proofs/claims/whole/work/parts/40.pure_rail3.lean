/-! PURE: rail(), the reference's side -/
def tk (M : zM) (b : Nat → Int32) (L s : Nat) : Prop := M 200 4 = nI (nx b L s) ∧ M 200 5 = nI s ∧ M 200 6 = tok b L s ∧ M 200 7 = vl b L s
def gd (M0 M : zM) : Prop := (∀ o, o ≠ 200 → o ≠ 207 → M o = M0 o) ∧ ∀ k, k < 2 ∨ 7 < k → M 200 k = M0 200 k
def wl (M0 M : zM) : Prop := gd M0 M ∧ M 200 2 = M0 200 2 ∧ M 200 3 = -1
def ft (M0 M : zM) (e : Int32) (s : Nat) : Prop := gd M0 M ∧ M 200 2 = e ∧ M 200 3 = nI s
theorem wl_n {M0 M : zM} (h : wl M0 M) : ¬ 0 ≤ M 200 3 := by rw [h.2.2]; decide
theorem ft_n {M0 M : zM} {e : Int32} {s : Nat} (h : ft M0 M e s) (hs : s ≤ 120) : 0 ≤ M 200 3 := by rw [h.2.2, pn_le, pn_n (by omega), t0]; omega
theorem p8_wellT {M0 M : zM} {Q : Int32 → Prop} (h : wl M0 M) (hq : Q 1) : wX8_isWell M 200 Q := ⟨fun c => absurd c (wl_n h), fun _ => hq⟩
theorem p8_wellF {M0 M : zM} {e : Int32} {s : Nat} {Q : Int32 → Prop} (h : ft M0 M e s) (hs : s ≤ 120) (hq : Q 0) : wX8_isWell M 200 Q := ⟨fun _ => hq, fun c => absurd (ft_n h hs) c⟩
/-- the tape as both know it -/
def tpe (M0 : zM) (b : Nat → Int32) (L : Nat) : Prop := M0 200 1 = nI L ∧ L ≤ 120 ∧ (∀ j, j < L → M0 205 j = b j) ∧ ∀ j, j < L → 0 ≤ (b j).toInt
section RA
variable {M0 M : zM} {b : Nat → Int32} {L s : Nat}
theorem p8_adv {Q : zM → Prop} (hT : tpe M0 b L) (hw : wl M0 M) (hs : s ≤ L) (h4 : M 200 4 = nI s) (h : ∀ N, wl M0 N → tk N b L s → N 207 = M 207 → Q N) : wX8_advances M 200 Q := by
  obtain ⟨⟨g1, g2⟩, w2, w3⟩ := hw
  refine p8_advances (by rw [g2 1 (by omega)]; exact hT.1) hT.2.1 (by rw [g1 205 (by decide) (by decide)]; exact hT.2.2.1) hT.2.2.2 hs h4 (fun N ⟨a1, a2, a3, a4, a5, a6⟩ => ?_)
  refine h N ⟨⟨fun o h1 h2 => by rw [a1 o h1, g1 o h1 h2], fun k hk => by rw [a2 k (by omega), g2 k hk]⟩, by rw [a2 2 (by omega)]; exact w2, by rw [a2 3 (by omega)]; exact w3⟩ ⟨a3, a4, a5, a6⟩ (a1 207 (by decide))
theorem p8_takesT {x e : Int32} {Q : Int32 → zM → Prop} (hT : tpe M0 b L) (hw : wl M0 M) (ht : tk M b L s) (hs : s ≤ L) (hx : ¬ x = 0) (h : ∀ N, wl M0 N → tk N b L (nx b L s) → N 207 = M 207 → Q (vl b L s) N) : wX8_takes M 200 x e Q := by
  unfold wX8_takes
  refine p8_wellT hw ⟨fun _ => ⟨fun _ => ?_, fun q => absurd q hx⟩, fun q => absurd q (by decide)⟩
  rw [ht.2.2.2]
  exact p8_adv hT hw (nx_le hs) ht.1 h
theorem p8_takesB {e : Int32} {Q : Int32 → zM → Prop} (hw : wl M0 M) (ht : tk M b L s) (h : ∀ N, ft M0 N e s → N 207 = M 207 → Q 0 N) : wX8_takes M 200 0 e Q := by
  unfold wX8_takes
  refine p8_wellT hw ⟨fun _ => ⟨fun q => absurd rfl q, fun _ M7 e7 M8 e8 => ?_⟩, fun q => absurd q (by decide)⟩
  have g8 : M8 200 = upd (upd (M 200) 3 (nI s)) 2 e := by rw [e8, va_up_self, e7, va_up_self, ht.2.1]
  have f8 : ∀ o, o ≠ 200 → M8 o = M o := fun o ho => by rw [e8, va_up_ne _ _ ho, e7, va_up_ne _ _ ho]
  refine h M8 ⟨⟨fun o h1 h2 => by rw [f8 o h1, hw.1.1 o h1 h2], fun k hk => by rw [g8, pk_un (by omega), pk_un (by omega), hw.1.2 k hk]⟩, by rw [g8, pk_us], by rw [g8, pk_un (by decide), pk_us]⟩ (f8 207 (by decide))
theorem p8_takesX {x e e1 : Int32} {s1 : Nat} {Q : Int32 → zM → Prop} (hf : ft M0 M e1 s1) (h1 : s1 ≤ 120) (h : Q 0 M) : wX8_takes M 200 x e Q := by
  unfold wX8_takes
  exact p8_wellF hf h1 ⟨fun q => absurd rfl q, fun _ => h⟩
theorem p8_figureX {m e1 : Int32} {s1 : Nat} {Q : Int32 → zM → Prop} (hf : ft M0 M e1 s1) (h1 : s1 ≤ 120) (h : Q 0 M) : wX8_figure M 200 0 m Q := by
  unfold wX8_figure
  refine p8_wellF hf h1 ⟨fun _ => ?_, fun q => absurd rfl q⟩
  unfold jnX8_figure_22
  exact p8_in (p8_takesX hf h1 h)
theorem p8_figure {m : Int32} {Q : Int32 → zM → Prop} (hT : tpe M0 b L) (hw : wl M0 M) (ht : tk M b L s) (hs : s ≤ L) (hB : ∀ N e, (L ≤ s → e = 1) → (s < L → e = pNum b L s m ∧ ¬ pNum b L s m = 0) → ft M0 N e s → N 207 = M 207 → Q 0 N)
    (hG : ∀ N, s < L → pNum b L s m = 0 → wl M0 N → tk N b L (nxt b L s) → N 207 = M 207 → Q (num b L s) N) : wX8_figure M 200 0 m Q := by
  unfold wX8_figure
  rw [ht.2.2.1]
  refine p8_wellT hw ⟨fun q => absurd q (by decide), fun _ => ⟨fun c => ?_, fun c => ?_⟩⟩
  · have hsL : s < L := by
      by_cases z : L ≤ s
      · rw [tok_0.2 z] at c; exact absurd c (by decide)
      · omega
    obtain ⟨f1, f2⟩ := (tok_2 hsL).1 c
    have hd : dg b L s = true := by
      by_cases z : dg b L s = true
      · exact z
      · rw [fig_f z] at f1; omega
    have ev : vl b L s = num b L s := by unfold vl; rw [if_neg (by omega), if_pos hd]
    have en : nx b L s = nxt b L s := by unfold nx; rw [if_neg (by omega)]
    have hr := num_rng (b := b) (L := L) (s := s) (by omega)
    have ep : pNum b L s m = if num b L s ≤ m then 0 else 2 := by unfold pNum; rw [if_neg (by omega)]
    unfold jnX8_figure_22
    rw [ht.2.2.2, ev]
    refine p8_in ?_
    by_cases z : num b L s ≤ m
    · have hz : ¬ zin (num b L s) 0 m = 0 := by
        rw [zin_0, pn_lt, pn_lt, t0]; rw [pn_le] at z; omega
      rw [if_pos z] at ep
      refine p8_takesT hT hw ht hs hz (fun N wN tN eN => ?_)
      rw [ev]
      rw [en] at tN
      exact hG N hsL ep wN tN eN
    · have hz : zin (num b L s) 0 m = 0 := by
        rw [zin_0, pn_lt, pn_lt]; rw [pn_le] at z; omega
      rw [if_neg z] at ep
      rw [hz]
      exact p8_takesB hw ht (fun N fN eN => hB N 2 (fun q => by omega) (fun _ => ⟨ep.symm, by rw [ep]; decide⟩) fN eN)
  · refine p8_takesB hw ht (fun N fN eN => hB N 1 (fun _ => rfl) (fun hsL => ?_) fN eN)
    have hn : ¬ (1 ≤ fig b L s ∧ fig b L s ≤ 2) := fun q => c ((tok_2 hsL).2 q)
    have ep : pNum b L s m = 1 := by unfold pNum; rw [if_pos (by omega)]
    exact ⟨ep.symm, by rw [ep]; decide⟩
/-- the draft of the reference -/
def drf (w : Nat → Int32) (p : Nat) (K V B : Nat → Int32) : Prop := w 0 = nI p ∧ w 1 = 0 ∧ (∀ j, j < p → w (2 + 4 * j) = K j ∧ w (3 + 4 * j) = V j ∧ w (4 + 4 * j) = B j) ∧ ∀ j, j < 12 → w (5 + 4 * j) = 0
theorem bad78 {r3 r7 r12 x e : Int32} {s1 : Nat} {Q : zM → Prop} (hf : ft M0 M e s1) (h1 : s1 ≤ 120) (h : Q M) : jnX8_readsPeg_78 200 r3 r7 r12 M Q x := by
  unfold jnX8_readsPeg_78
  exact p8_takesX hf h1 (p8_wellF hf h1 ⟨fun _ => h, fun q => absurd rfl q⟩)
theorem bad52 {r3 r7 x e : Int32} {s1 : Nat} {Q : zM → Prop} (hf : ft M0 M e s1) (h1 : s1 ≤ 120) (h : Q M) : jnX8_readsPeg_52 200 r3 r7 M Q x := by
  unfold jnX8_readsPeg_52
  exact p8_takesX hf h1 (p8_figureX hf h1 ⟨fun _ => bad78 hf h1 h, fun _ => bad78 hf h1 h⟩)
theorem p8_readsPeg {p d : Nat} {k v : Int32} {K V B : Nat → Int32} {R : pR} {Q : zM → Prop} (hT : tpe M0 b L) (hw : wl M0 M) (ht : tk M b L s) (hs : s < L) (hk : ¬ knd (b s) = 0) (hd : L ≤ s + d) (hR : R = pTok b L d 0 s k v p K V B) (hp : p ≤ 12) (hr : drf (M 207) p K V B)
    (hE : ∀ N e s1, R = Sum.inl (e, s1) → s1 ≤ L → ft M0 N e s1 → Q N)
    (hG : ∀ N d1 s1 k1 v1 x y z, s < s1 → s1 ≤ L → L ≤ s1 + d1 → p < 12 → R = pTok b L d1 0 s1 k1 v1 (p + 1) (upd K p x) (upd V p y) (upd B p z) → wl M0 N → tk N b L s1 → drf (N 207) (p + 1) (upd K p x) (upd V p y) (upd B p z) → Q N) : wX8_readsPeg M 200 Q := by
  obtain ⟨t1, t2, t3⟩ := tok_1 hs hk
  have h120 := hT.2.1
  have en : ∀ j, j < L → nx b L j = nxt b L j := fun j hj => by unfold nx; rw [if_neg (by omega)]
  have px : pFault b L 0 s p = if p < 12 then 0 else 3 := by unfold pFault; rw [if_pos rfl, if_neg hk]
  obtain ⟨d, rfl⟩ : ∃ d1, d = d1 + 1 := ⟨d - 1, by omega⟩
  unfold wX8_readsPeg
  refine p8_kindOf ?_
  rw [ht.2.2.2, t2, show M (200 + 7) (0 : Int32).toNatClampNeg = nI p from hr.1]
  refine ⟨fun c => ?_, fun c => ?_⟩
  · rw [pn_le, pn_n (by omega), show (12 : Int32).toInt = 12 from rfl] at c
    rw [if_neg (by omega)] at px
    rw [pTok_f (by omega) (by rw [px]; decide), px] at hR
    unfold jnX8_readsPeg_25
    refine p8_takesB hw ht (fun N fN eN => p8_figureX fN (by omega) ?_)
    exact ⟨fun _ => bad52 fN (by omega) (hE N 3 s hR (by omega) fN), fun _ => bad52 fN (by omega) (hE N 3 s hR (by omega) fN)⟩
  · rw [pn_le, pn_n (by omega), show (12 : Int32).toInt = 12 from rfl] at c
    rw [if_pos (by omega)] at px
    rw [pTok_g (by omega) px, if_pos rfl] at hR
    unfold jnX8_readsPeg_25
    refine p8_takesT hT hw ht (by omega) (by decide) (fun N1 w1 k1 e1 => ?_)
    rw [en s hs] at k1
    have x1 := nxt_lt b L s
    have y1 := nxt_le (b := b) hs
    obtain ⟨s1, hs1⟩ : ∃ s1, s1 = nxt b L s := ⟨_, rfl⟩
    rw [← hs1] at hR k1 x1 y1
    refine p8_figure hT w1 k1 y1 (fun N e b1 b2 fN eN => ?_) (fun N2 l1 pz w2 k2 e2 => ?_)
    · have hb : R = Sum.inl (e, s1) := by
        by_cases z : L ≤ s1
        · rw [hR, pTok_end z, b1 z, show s1 = L by omega]; rfl
        · obtain ⟨q1, q2⟩ := b2 (by omega)
          obtain ⟨d, rfl⟩ : ∃ d1, d = d1 + 1 := ⟨d - 1, by omega⟩
          rw [hR, pTok_f (b := b) (L := L) (t := 1) (s := s1) (p := p) (by omega) q2, q1]; rfl
      exact ⟨fun _ => bad52 fN (by omega) (hE N e s1 hb y1 fN), fun _ => bad52 fN (by omega) (hE N e s1 hb y1 fN)⟩
    · obtain ⟨d, rfl⟩ : ∃ d1, d = d1 + 1 := ⟨d - 1, by omega⟩
      rw [pTok_g (b := b) (L := L) (t := 1) (s := s1) (p := p) (by omega) pz, if_neg (by decide), if_pos rfl] at hR
      have x2 := nxt_lt b L s1
      have y2 := nxt_le (b := b) l1
      obtain ⟨s2, hs2⟩ : ∃ s2, s2 = nxt b L s1 := ⟨_, rfl⟩
      rw [← hs2] at hR k2 x2 y2
      rw [k2.2.2.1]
      have bad : ∀ (hnb : L ≤ s2 ∨ ¬ b s2 = 44) (N : zM), ft M0 N 1 s2 → Q N := fun hnb N fN => by
        refine hE N 1 s2 ?_ y2 fN
        by_cases z : L ≤ s2
        · rw [hR, pTok_end z, show s2 = L by omega]; rfl
        · obtain ⟨d, rfl⟩ : ∃ d1, d = d1 + 1 := ⟨d - 1, by omega⟩
          have ep : pFault b L 2 s2 p = 1 := by unfold pFault; rw [if_neg (by decide), if_neg (by decide), if_pos rfl, if_neg (hnb.elim (fun q => absurd q z) id)]
          rw [hR, pTok_f (by omega) (by rw [ep]; decide), ep]
      refine ⟨fun c3 => ?_, fun c3 => ?_⟩
      · unfold jnX8_readsPeg_52
        refine p8_takesB w2 k2 (fun N fN eN => p8_figureX fN (by omega) ?_)
        have q := bad (by
          by_cases z : L ≤ s2
          · exact Or.inl z
          · exact Or.inr (fun q => c3 ((tok_s (by omega) (Or.inl ⟨rfl, rfl⟩)).2 q))) N fN
        exact ⟨fun _ => bad78 fN (by omega) q, fun _ => bad78 fN (by omega) q⟩
      · have l2 : s2 < L := by
          by_cases z : L ≤ s2
          · rw [tok_0.2 z] at c3; exact absurd c3 (by decide)
          · omega
        have c3 := (tok_s l2 (Or.inl ⟨rfl, rfl⟩)).1 c3
        have ep : pFault b L 2 s2 p = 0 := by unfold pFault; rw [if_neg (by decide), if_neg (by decide), if_pos rfl, if_pos c3]
        obtain ⟨d, rfl⟩ : ∃ d1, d = d1 + 1 := ⟨d - 1, by omega⟩
        rw [pTok_g (by omega) ep, if_neg (by decide), if_neg (by decide), if_pos rfl] at hR
        unfold jnX8_readsPeg_52
        refine p8_takesT hT w2 k2 y2 (by decide) (fun N3 w3 k3 e3 => ?_)
        rw [en s2 l2] at k3
        have x3 := nxt_lt b L s2
        have y3 := nxt_le (b := b) l2
        obtain ⟨s3, hs3⟩ : ∃ s3, s3 = nxt b L s2 := ⟨_, rfl⟩
        rw [← hs3] at hR k3 x3 y3
        refine p8_figure hT w3 k3 y3 (fun N e b1 b2 fN eN => ?_) (fun N4 l3 pz3 w4 k4 e4 => ?_)
        · have hb : R = Sum.inl (e, s3) := by
            by_cases z : L ≤ s3
            · rw [hR, pTok_end z, b1 z, show s3 = L by omega]; rfl
            · obtain ⟨q1, q2⟩ := b2 (by omega)
              obtain ⟨d, rfl⟩ : ∃ d1, d = d1 + 1 := ⟨d - 1, by omega⟩
              rw [hR, pTok_f (b := b) (L := L) (t := 3) (s := s3) (p := p) (by omega) q2, q1]; rfl
          exact ⟨fun _ => bad78 fN (by omega) (hE N e s3 hb y3 fN), fun _ => bad78 fN (by omega) (hE N e s3 hb y3 fN)⟩
        · obtain ⟨d, rfl⟩ : ∃ d1, d = d1 + 1 := ⟨d - 1, by omega⟩
          rw [pTok_g (b := b) (L := L) (t := 3) (s := s3) (p := p) (by omega) pz3, if_neg (by decide), if_neg (by decide), if_neg (by decide), if_pos rfl] at hR
          have x4 := nxt_lt b L s3
          have y4 := nxt_le (b := b) l3
          obtain ⟨s4, hs4⟩ : ∃ s4, s4 = nxt b L s3 := ⟨_, rfl⟩
          rw [← hs4] at hR k4 x4 y4
          rw [k4.2.2.1]
          refine ⟨fun c5 => ?_, fun c5 => ?_⟩
          · unfold jnX8_readsPeg_78
            refine p8_takesB w4 k4 (fun N fN eN => p8_wellF fN (by omega) ⟨fun _ => hE N 1 s4 ?_ y4 fN, fun q => absurd rfl q⟩)
            by_cases z : L ≤ s4
            · rw [hR, pTok_end z, show s4 = L by omega]; rfl
            · obtain ⟨d, rfl⟩ : ∃ d1, d = d1 + 1 := ⟨d - 1, by omega⟩
              have ep : pFault b L 4 s4 (p + 1) = 1 := by unfold pFault; rw [if_neg (by decide), if_neg (by decide), if_neg (by decide), if_neg (by decide), if_neg (fun q => c5 ((tok_s (by omega) (Or.inr ⟨rfl, rfl⟩)).2 q))]
              rw [hR, pTok_f (by omega) (by rw [ep]; decide), ep]
          · have l4 : s4 < L := by
              by_cases z : L ≤ s4
              · rw [tok_0.2 z] at c5; exact absurd c5 (by decide)
              · omega
            have c5 := (tok_s l4 (Or.inr ⟨rfl, rfl⟩)).1 c5
            have ep : pFault b L 4 s4 (p + 1) = 0 := by unfold pFault; rw [if_neg (by decide), if_neg (by decide), if_neg (by decide), if_neg (by decide), if_pos c5]
            obtain ⟨d, rfl⟩ : ∃ d1, d = d1 + 1 := ⟨d - 1, by omega⟩
            rw [pTok_g (by omega) ep, if_neg (by decide), if_neg (by decide), if_neg (by decide), if_neg (by decide)] at hR
            have x5 := nxt_lt b L s4
            have y5 := nxt_le (b := b) l4
            unfold jnX8_readsPeg_78
            refine p8_takesT hT w4 k4 y4 (by decide) (fun N5 w5 k5 e5 => p8_wellT w5 ⟨fun q => absurd q (by decide), fun _ x18 e18 => ?_⟩)
            rw [en s4 l4] at k5
            have e207 : N5 207 = M 207 := by rw [e5, e4, e3, e2, e1]
            rw [show N5 (200 + 7) (0 : Int32).toNatClampNeg = nI p by show N5 207 0 = nI p; rw [e207]; exact hr.1] at e18
            rw [e18, nI_4, cl_of (by omega), show nI (2 + 4 * p) + 1 = nI (3 + 4 * p) by rw [nI_1]; congr 1; omega, show nI (2 + 4 * p) + 2 = nI (4 + 4 * p) by rw [show (2 : Int32) = nI 2 from rfl, nI_add]; congr 1; omega, cl_of (by omega), cl_of (by omega)]
            refine ⟨vp_of (by omega) (by omega), fun M19 e19 => ⟨vp_of (by omega) (by omega), fun M20 e20 => ⟨vp_of (by omega) (by omega), fun M21 e21 x22 e22 M23 e23 => ?_⟩⟩⟩
            have g19 : M19 207 = upd (M 207) (2 + 4 * p) (knd (b s)) := by rw [← e207, e19]; exact va_up_self _ _ _
            have g20 : M20 207 = upd (upd (M 207) (2 + 4 * p) (knd (b s))) (3 + 4 * p) (num b L s1) := by rw [← g19, e20]; exact va_up_self _ _ _
            have g21 : M21 207 = upd (upd (upd (M 207) (2 + 4 * p) (knd (b s))) (3 + 4 * p) (num b L s1)) (4 + 4 * p) (num b L s3) := by rw [← g20, e21]; exact va_up_self _ _ _
            have h22 : x22 = nI (p + 1) := by
              rw [e22]
              show M21 207 0 + 1 = _
              rw [g21, pk_un (by omega), pk_un (by omega), pk_un (by omega), hr.1, nI_1]
            have g23 : M23 207 = upd (upd (upd (upd (M 207) (2 + 4 * p) (knd (b s))) (3 + 4 * p) (num b L s1)) (4 + 4 * p) (num b L s3)) 0 (nI (p + 1)) := by rw [← g21, ← h22, e23]; exact va_up_self _ _ _
            have f23 : ∀ o, o ≠ 207 → M23 o = N5 o := fun o ho => by rw [e23, va_up_ne _ _ ho, e21, va_up_ne _ _ ho, e20, va_up_ne _ _ ho, e19, va_up_ne _ _ ho]
            have g200 := f23 200 (by decide)
            refine hG M23 d (nxt b L s4) _ _ (knd (b s)) (num b L s1) (num b L s3) (by omega) y5 (by omega) (by omega) hR ⟨⟨fun o h1 h2 => by rw [f23 o h2, w5.1.1 o h1 h2], fun k hk => by rw [g200, w5.1.2 k hk]⟩, by rw [g200]; exact w5.2.1, by rw [g200]; exact w5.2.2⟩ (by unfold tk; rw [g200]; exact k5) ⟨?_, ?_, fun j hj => ?_, fun j hj => ?_⟩
            · rw [g23, pk_us]
            · rw [g23, pk_un (by omega), pk_un (by omega), pk_un (by omega), pk_un (by omega)]; exact hr.2.1
            · rw [g23]
              by_cases c : j = p
              · subst c
                refine ⟨?_, ?_, ?_⟩
                · rw [pk_un (by omega), pk_un (by omega), pk_un (by omega), pk_us, pk_us]
                · rw [pk_un (by omega), pk_un (by omega), pk_us, pk_us]
                · rw [pk_un (by omega), pk_us, pk_us]
              · obtain ⟨j1, j2, j3⟩ := hr.2.2.1 j (by omega)
                refine ⟨?_, ?_, ?_⟩
                · rw [pk_un (by omega), pk_un (by omega), pk_un (by omega), pk_un (by omega), pk_un c]; exact j1
                · rw [pk_un (by omega), pk_un (by omega), pk_un (by omega), pk_un (by omega), pk_un c]; exact j2
                · rw [pk_un (by omega), pk_un (by omega), pk_un (by omega), pk_un (by omega), pk_un c]; exact j3
            · rw [g23, pk_un (by omega), pk_un (by omega), pk_un (by omega), pk_un (by omega)]; exact hr.2.2.2 j hj
theorem p8_mustX {x e e1 : Int32} {s1 : Nat} {Q : zM → Prop} (hf : ft M0 M e1 s1) (h1 : s1 ≤ 120) (h : Q M) : wX8_must M 200 x e Q := by
  unfold wX8_must
  exact p8_wellF hf h1 ⟨fun _ => h, fun q => absurd rfl q⟩
theorem p8_mustT {x e : Int32} {Q : zM → Prop} (hw : wl M0 M) (hx : ¬ x = 0) (h : Q M) : wX8_must M 200 x e Q := by
  unfold wX8_must
  exact p8_wellT hw ⟨fun q => absurd q (by decide), fun _ => ⟨fun _ => h, fun q => absurd q hx⟩⟩
theorem p8_mustB {e : Int32} {Q : zM → Prop} (hw : wl M0 M) (ht : tk M b L s) (h : ∀ N, ft M0 N e s → N 207 = M 207 → Q N) : wX8_must M 200 0 e Q := by
  unfold wX8_must
  exact p8_wellT hw ⟨fun q => absurd q (by decide), fun _ => ⟨fun q => absurd rfl q, fun _ => p8_takesB hw ht h⟩⟩
end RA
theorem p8_rail {M : zM} {L : Nat} {b : Nat → Int32} {Q : Int32 → zM → Prop} (hT : tpe M b L)
    (hE : ∀ (N : zM) (e : Int32) (s : Nat), pTok b L L 0 0 0 0 0 zZ0 zZ0 zZ0 = Sum.inl (e, s) → (∀ o, o ≠ 200 → o ≠ 207 → N o = M o) → (∀ k, k = 0 ∨ 7 < k → N 200 k = M 200 k) → N 200 1 = 0 → N 200 2 = e → Q (-1000100 - nI s) N)
    (hO : ∀ (N : zM) (p : Nat) (K V B : Nat → Int32), pTok b L L 0 0 0 0 0 zZ0 zZ0 zZ0 = Sum.inr (p, K, V, B) → (∀ o, o ≠ 200 → o ≠ 206 → o ≠ 207 → N o = M o) → (∀ k, k = 0 ∨ 8 < k → N 200 k = M 200 k) → N 200 1 = 0 → N 200 2 = M 200 2 → N 200 8 = 0 → p ≤ 12 → rowOf (N 206) p 0 K V B zZ0 → Q (nI p) N) : wX8_rail M 200 Q := by
  obtain ⟨R, hR⟩ : ∃ R, R = pTok b L L 0 0 0 0 0 zZ0 zZ0 zZ0 := ⟨_, rfl⟩
  rw [← hR] at hE hO
  have h120 := hT.2.1
  unfold wX8_rail
  have keyz : ∀ C : Int32 → zM → Prop, (∀ (N : zM) (x : Int32), (∀ o, o ≠ 207 → N o = M o) → (∀ j, j < 50 → N 207 j = 0) → C x N) → ∀ d i, i + d = 50 → ∀ N : zM, (∀ o, o ≠ 207 → N o = M o) → (∀ j, j < i → N 207 j = 0) → lpX8_rail_2 200 C (d + 1) (nI i) N := by
    intro C hC d
    induction d with
    | zero =>
      intro i hi N fN zN
      obtain rfl : i = 50 := by omega
      unfold lpX8_rail_2
      exact ⟨fun _ => hC N _ fN zN, fun c => absurd (show (50 : Int32) ≤ nI 50 from by decide) c⟩
    | succ d ih =>
      intro i hi N fN zN
      unfold lpX8_rail_2
      refine ⟨fun c => absurd c (nI_ge (a := i) (b := 50) (by omega) (by decide)), fun _ => ⟨vp_of (by omega) (by omega), fun M23 e23 x24 e24 => ?_⟩⟩
      rw [cl_of (by omega)] at e23
      rw [e24, nI_1]
      refine ih (i + 1) (by omega) M23 (fun o ho => by rw [e23, va_up_ne _ _ ho, fN o ho]) (fun j hj => ?_)
      rw [e23]
      show va_up N 207 _ 207 j = 0
      rw [va_up_self]
      by_cases c : j = i
      · rw [c, pk_us]
      · rw [pk_un c]; exact zN j (by omega)
  refine ⟨51, keyz _ ?_ 50 0 (by omega) M (fun _ _ => rfl) (fun j hj => by omega)⟩
  intro N0 x5 f0 z0 M7 e7 M8 e8
  have g8 : M8 200 = upd (upd (M 200) 4 0) 3 (-1) := by rw [e8, va_up_self, e7, va_up_self, f0 200 (by decide)]
  have f8 : ∀ o, o ≠ 200 → M8 o = N0 o := fun o ho => by rw [e8, va_up_ne _ _ ho, e7, va_up_ne _ _ ho]
  have w8 : wl M M8 := ⟨⟨fun o h1 h2 => by rw [f8 o h1, f0 o h2], fun k hk => by rw [g8, pk_un (by omega), pk_un (by omega)]⟩, by rw [g8, pk_un (by decide), pk_un (by decide)], by rw [g8, pk_us]⟩
  have d8 : drf (M8 207) 0 zZ0 zZ0 zZ0 := by
    rw [f8 207 (by decide)]
    exact ⟨z0 0 (by omega), z0 1 (by omega), fun j hj => by omega, fun j hj => z0 _ (by omega)⟩
  refine p8_adv (s := 0) hT w8 (by omega) (by rw [g8, pk_un (by decide), pk_us]; rfl) (fun M9 w9 t9 e9 => ?_)
  have d9 : drf (M9 207) 0 zZ0 zZ0 zZ0 := by rw [e9]; exact d8
  -- the end of it, behind a fault
  have endX : ∀ (N : zM) (e : Int32) (s : Nat) (x : Int32), ft M N e s → s ≤ L → R = Sum.inl (e, s) → jnX8_rail_109 200 N Q x := by
    intro N e s x fN hs hr
    unfold jnX8_rail_109
    refine p8_mustX fN (by omega) (fun M16 e16 => ?_)
    have g16 : M16 200 = upd (N 200) 1 0 := by rw [e16, va_up_self]
    have f16 : ∀ o, o ≠ 200 → M16 o = N o := fun o ho => by rw [e16, va_up_ne _ _ ho]
    have a3 : M16 200 3 = nI s := by rw [g16, pk_un (by decide)]; exact fN.2.2
    refine ⟨fun _ => ⟨fun q => absurd rfl q, fun _ => ?_⟩, fun c => absurd (by rw [a3, pn_le, pn_n (by omega), t0]; omega) c⟩
    rw [a3]
    exact hE M16 e s hr (fun o h1 h2 => by rw [f16 o h1, fN.1.1 o h1 h2]) (fun k hk => by rw [g16, pk_un (by omega), fN.1.2 k (by omega)]) (by rw [g16, pk_us]) (by rw [g16, pk_un (by decide)]; exact fN.2.1)
  have endX2 : ∀ (N : zM) (e : Int32) (s : Nat) (x : Int32), ft M N e s → s ≤ L → R = Sum.inl (e, s) → jnX8_rail_89 200 N Q x := by
    intro N e s x fN hs hr
    unfold jnX8_rail_89
    exact p8_mustX fN (by omega) ⟨fun _ => endX N e s _ fN hs hr, fun _ => endX N e s _ fN hs hr⟩
  have endB : ∀ (N : zM) (s : Nat), wl M N → tk N b L s → s ≤ L → R = Sum.inl (1, s) → jnX8_rail_88 200 N Q := by
    intro N s wN tN hs hr
    unfold jnX8_rail_88 jnX8_rail_89
    exact p8_mustB wN tN (fun P fP eP => ⟨fun _ => endX P 1 s _ fP hs hr, fun _ => endX P 1 s _ fP hs hr⟩)
  have key : ∀ C : zM → Prop, (∀ (N : zM) (e : Int32) (s : Nat), ft M N e s → s ≤ L → R = Sum.inl (e, s) → C N) → (∀ (N : zM) (s p : Nat) (K V B : Nat → Int32), wl M N → tk N b L s → s ≤ L → p ≤ 12 → drf (N 207) p K V B → (L ≤ s → R = pFin L 0 p K V B) → (s < L → R = Sum.inl (1, s)) → C N) → ∀ f d s k v p K V B (N : zM), L ≤ s + f → s ≤ L → L ≤ s + d → R = pTok b L d 0 s k v p K V B → wl M N → tk N b L s → drf (N 207) p K V B → p ≤ 12 → lpX8_rail_35 200 C (f + 1) N := by
    intro C hX hC f
    induction f with
    | zero =>
      intro d s k v p K V B N h1 h2 h3 hr wN tN dN hp
      unfold lpX8_rail_35
      have c := hC N s p K V B wN tN h2 hp dN (fun q => by rw [hr, pTok_end q]) (fun q => by omega)
      refine p8_wellT wN ⟨fun _ => c, fun _ => ⟨fun _ => c, fun q => ?_⟩⟩
      rw [tN.2.2.1, tok_0.2 (by omega)] at q
      exact absurd q (by decide)
    | succ f ih =>
      intro d s k v p K V B N h1 h2 h3 hr wN tN dN hp
      have c : (s < L → knd (b s) = 0) → C N := fun q => hC N s p K V B wN tN h2 hp dN (fun z => by rw [hr, pTok_end z]) (fun z => by
        obtain ⟨d, rfl⟩ : ∃ d1, d = d1 + 1 := ⟨d - 1, by omega⟩
        have ep : pFault b L 0 s p = 1 := by unfold pFault; rw [if_pos rfl, if_pos (q z)]
        rw [hr, pTok_f (by omega) (by rw [ep]; decide), ep])
      unfold lpX8_rail_35
      rw [tN.2.2.1, tN.2.2.2]
      refine p8_wellT wN ⟨fun q => absurd q (by decide), fun _ => ⟨fun q => c (fun z => ?_), fun q => ?_⟩⟩
      · by_cases y : knd (b s) = 0
        · exact y
        · exact absurd (tok_1 z y).1 q
      · obtain ⟨hs, ev⟩ := tok_1v q
        rw [ev]
        refine p8_kindOf ⟨fun z => c (fun _ => ?_), fun z => ?_⟩
        · rw [pn_le, t0] at z
          have := knd_rng (b s)
          rw [pn_eq, t0]; omega
        · have hk : ¬ knd (b s) = 0 := fun y => z (by rw [y]; decide)
          refine p8_readsPeg hT wN tN hs hk h3 hr hp dN (fun N2 e s1 hr2 hs1 fN2 => ?_) (fun N2 d1 s1 k1 v1 x y z a1 a2 a3 a4 hr2 wN2 tN2 dN2 => ?_)
          · unfold lpX8_rail_35
            exact p8_wellF fN2 (by omega) ⟨fun _ => hX N2 e s1 fN2 hs1 hr2, fun q => absurd rfl q⟩
          · exact ih d1 s1 k1 v1 (p + 1) _ _ _ N2 (by omega) a2 a3 hr2 wN2 tN2 dN2 (by omega)
  refine ⟨L + 1, key _ (fun N e s fN hs hr => ?_) (fun N s p K V B wN tN hs hp dN r1 r2 => ?_) L L 0 0 0 0 zZ0 zZ0 zZ0 M9 (by omega) (by omega) (by omega) hR w9 t9 d9 (by omega)⟩
  · exact ⟨fun _ => endX2 N e s 0 fN hs hr, fun _ => ⟨fun _ => endX2 N e s 0 fN hs hr, fun _ => endX2 N e s 1 fN hs hr⟩⟩
  · rw [show N (200 + 7) (0 : Int32).toNatClampNeg = nI p from dN.1, tN.2.2.1]
    by_cases cL : L ≤ s
    · have r1 := r1 cL
      unfold pFin at r1
      refine ⟨fun c => endB N s wN tN hs ?_, fun c => ⟨fun q => absurd (tok_0.2 cL) q, fun _ => ?_⟩⟩
      · rw [if_neg (fun q => q.2 ((n_le0 hp).1 c))] at r1
        rw [r1, show s = L by omega]
      · have hp0 : ¬ p = 0 := fun q => c ((n_le0 hp).2 q)
        rw [if_pos ⟨rfl, hp0⟩] at r1
        unfold jnX8_rail_89
        refine p8_mustT wN (by decide) ?_
        rw [show N (200 + 7) (0 : Int32).toNatClampNeg = nI p from dN.1]
        refine ⟨fun q => ?_, fun q => ?_⟩
        · rw [pn_le, pn_n (by omega), show (2 : Int32).toInt = 2 from rfl] at q
          rw [if_pos (by omega)] at r1
          unfold jnX8_rail_109
          refine p8_mustB wN tN (fun P fP eP M16 e16 => ?_)
          have g16 : M16 200 = upd (P 200) 1 0 := by rw [e16, va_up_self]
          have f16 : ∀ o, o ≠ 200 → M16 o = P o := fun o ho => by rw [e16, va_up_ne _ _ ho]
          have a3 : M16 200 3 = nI s := by rw [g16, pk_un (by decide)]; exact fP.2.2
          refine ⟨fun _ => ⟨fun q => absurd rfl q, fun _ => ?_⟩, fun c => absurd (by rw [a3, pn_le, pn_n (by omega), t0]; omega) c⟩
          rw [a3]
          exact hE M16 4 s (by rw [r1, show s = L by omega]) (fun o h1 h2 => by rw [f16 o h1, fP.1.1 o h1 h2]) (fun k hk => by rw [g16, pk_un (by omega), fP.1.2 k (by omega)]) (by rw [g16, pk_us]) (by rw [g16, pk_un (by decide)]; exact fP.2.1)
        · rw [pn_le, pn_n (by omega), show (2 : Int32).toInt = 2 from rfl] at q
          rw [if_neg (by omega)] at r1
          unfold jnX8_rail_109
          refine p8_mustT wN (by decide) (fun M16 e16 => ?_)
          have g16 : M16 200 = upd (N 200) 1 0 := by rw [e16, va_up_self]
          have f16 : ∀ o, o ≠ 200 → M16 o = N o := fun o ho => by rw [e16, va_up_ne _ _ ho]
          have a3 : M16 200 3 = -1 := by rw [g16, pk_un (by decide)]; exact wN.2.2
          refine ⟨fun c => absurd c (by rw [a3]; decide), fun _ => ⟨fun _ => p8_copies (a := 0) (b := 0) (by decide) (by omega) (by omega) (by omega) (by omega) ?_, fun q => absurd q (by decide)⟩⟩
          intro M19 e19
          have f19 : ∀ o, o ≠ 200 → o ≠ 206 → M19 o = N o := fun o h1 h2 => by rw [e19, va_up_ne _ _ h1, va_up_ne _ _ h2, f16 o h1]
          have g19 : M19 200 = upd (upd (N 200) 1 0) 8 0 := by rw [e19, va_up_self, va_up_ne _ _ (by decide), g16]
          have g206 : ∀ j, j < 50 → M19 206 j = N 207 j := fun j hj => by
            rw [e19, va_up_ne _ _ (by decide)]
            show va_up M16 206 _ 206 j = _
            rw [va_up_self, cpy_in hj, f16 (200 + 7) (by decide)]
          rw [show M19 (200 + 6) (0 : Int32).toNatClampNeg = nI p from (g206 0 (by omega)).trans dN.1]
          refine hO M19 p K V B r1 (fun o h1 h2 h3 => by rw [f19 o h1 h2, wN.1.1 o h1 h3]) (fun k hk => by rw [g19, pk_un (by omega), pk_un (by omega), wN.1.2 k (by omega)]) (by rw [g19, pk_un (by decide), pk_us]) (by rw [g19, pk_un (by decide), pk_un (by decide)]; exact wN.2.1) (by rw [g19, pk_us]) hp ⟨(g206 0 (by omega)).trans dN.1, (g206 1 (by omega)).trans dN.2.1, fun j hj => (g206 _ (by omega)).trans (dN.2.2.1 j hj).1, fun j hj => (g206 _ (by omega)).trans (dN.2.2.1 j hj).2.1, fun j hj => (g206 _ (by omega)).trans (dN.2.2.1 j hj).2.2, fun j hj => (g206 _ (by omega)).trans (dN.2.2.2 j (by omega))⟩
    · have hb := endB N s wN tN hs (r2 (by omega))
      exact ⟨fun _ => hb, fun _ => ⟨fun _ => hb, fun q => absurd (tok_0.1 q) cL⟩⟩
section RB
variable {S : zM → Prop}
theorem s_rail (hS : sOwn S) : st_rail (fun M _ => cAll S M) := by
  intro M J hI
  obtain ⟨t1, t2, ⟨t3, t4⟩, t5⟩ := hI.2.2.1
  obtain ⟨L, eL, hL⟩ : ∃ L : Nat, M 18 0 = nI L ∧ (M 18 0).toInt = L := ⟨(M 18 0).toInt.toNat, pn_of t3, by omega⟩
  obtain ⟨b, hb⟩ : ∃ b, b = M 19 := ⟨_, rfl⟩
  unfold wX7_rail
  refine p6_parse (M := M) (L := L) (b := b) eL (by omega) (fun j hj => by rw [hb]) (fun N e s hr fN gN => ?_) (fun N p K V B hr fN cN wN h3 iv => ?_)
  · intro M5 e5
    have g5 : M5 18 = upd (upd (upd (M 18) 1 e) 2 (nI s)) 0 0 := by rw [e5]; show va_up N 18 _ 18 = _; rw [va_up_self, show N (0 + 18) = N 18 from rfl, gN]
    have f5 : ∀ o, (o < 25 ∨ 30 ≤ o) → o ≠ 18 → M5 o = M o := fun o h1 h2 => by rw [e5, va_up_ne _ _ h2, fN o h1 h2]
    refine ⟨fun q => absurd rfl q, fun _ => ?_⟩
    rw [show M5 (0 + 18) 2 = nI s by show M5 18 2 = nI s; rw [g5, pk_un (by decide), pk_us]]
    refine p8_rail (L := L) (b := b) ⟨?_, by omega, fun j hj => ?_, fun j hj => ?_⟩ (fun P e2 s2 hr2 fP gP p1 p2 => ?_) (fun P p K V B hr2 => ?_)
    · rw [f5 200 (by omega) (by decide), ← t1]; exact eL
    · rw [f5 205 (by omega) (by decide), hb]; exact (t5 j (by omega) (by omega)).1.symm
    · rw [hb]; exact (t5 j (by omega) (by omega)).2.1
    · rw [hr] at hr2
      obtain ⟨rfl, rfl⟩ : e = e2 ∧ s = s2 := by
        have := Sum.inl.inj hr2
        exact ⟨congrArg Prod.fst this, congrArg Prod.snd this⟩
      refine ⟨rfl, ?_⟩
      have g : ∀ o, (o < 25 ∨ 30 ≤ o) → o ≠ 18 → o ≠ 200 → o ≠ 207 → P o = M o := fun o h1 h2 h3 h4 => by rw [fP o h3 h4, f5 o h1 h2]
      have g2 : ∀ k, k = 0 ∨ 7 < k → P 200 k = M 200 k := fun k hk => by rw [gP k hk, f5 200 (by omega) (by decide)]
      have p18 : P 18 = upd (upd (upd (M 18) 1 e) 2 (nI s)) 0 0 := by rw [fP 18 (by decide) (by decide), g5]
      obtain ⟨a1, b1, c1, d1, ⟨i0, i1⟩, h1, j1, k1, l1⟩ := hI
      refine ⟨fun r hr => cRow_of (a1 r hr) (by rw [g 201 (by omega) (by omega) (by omega) (by omega)]) (by rw [g 202 (by omega) (by omega) (by omega) (by omega)]) (fun k _ => by rw [g 203 (by omega) (by omega) (by omega) (by omega)]) (g _ (by omega) (by omega) (by omega) (by omega)) (g _ (by omega) (by omega) (by omega) (by omega)), ?_, ?_, cRail_of d1 (g _ (by omega) (by omega) (by omega) (by omega)) (g _ (by omega) (by omega) (by omega) (by omega)) (g _ (by omega) (by omega) (by omega) (by omega)) (g _ (by omega) (by omega) (by omega) (by omega)) (g _ (by omega) (by omega) (by omega) (by omega)) (g _ (by omega) (by omega) (by omega) (by omega)), ⟨cImg_of i0 (by rw [g 211 (by omega) (by omega) (by omega) (by omega)]) (fun j hj => g _ (by omega) (by omega) (by omega) (by omega)) (g _ (by omega) (by omega) (by omega) (by omega)), cImg_of i1 (by rw [g 211 (by omega) (by omega) (by omega) (by omega)]) (fun j hj => g _ (by omega) (by omega) (by omega) (by omega)) (g _ (by omega) (by omega) (by omega) (by omega))⟩, cHist_of h1 (g2 8 (by omega)) (fun o h1 h2 => g o (by omega) (by omega) (by omega) (by omega)) (g _ (by omega) (by omega) (by omega) (by omega)), cAsk_of j1 (g _ (by omega) (by omega) (by omega) (by omega)) (g _ (by omega) (by omega) (by omega) (by omega)) (g2 11 (by omega)) (g _ (by omega) (by omega) (by omega) (by omega)), cSet_of k1 (by rw [g 165 (by omega) (by omega) (by omega) (by omega)]) (by rw [g 165 (by omega) (by omega) (by omega) (by omega)]), hS M P l1 (fun o h1 h2 => g o (by omega) (by omega) (by omega) (by omega))⟩
      · rw [g 0 (by omega) (by omega) (by omega) (by omega), g2 0 (by omega)]; exact b1
      · refine ⟨?_, ?_, ?_, ?_⟩
        · rw [p18, pk_us, p1]
        · rw [p18, pk_un (by decide), pk_un (by decide), pk_us, p2]
        · rw [p18, pk_us, t0]; omega
        · intro k hk hk2
          rw [p18, pk_us, t0] at hk2
          omega
    · rw [hr] at hr2; exact absurd hr2 (by intro q; cases q)
  · intro M5 e5
    have g5 : M5 18 = upd (M 18) 0 0 := by rw [e5]; show va_up N 18 _ 18 = _; rw [va_up_self, show N (0 + 18) = N 18 from rfl, fN 18 (by omega)]
    have f5 : ∀ o, o ≠ 18 → M5 o = N o := fun o h2 => by rw [e5, va_up_ne _ _ h2]
    have p12 := iv.1
    refine ⟨fun _ => p2_become (o0 := 20) (o1 := 25) (n := p) (by rw [f5 25 (by decide)]; exact cN.1) p12 (by omega) (fun A hA => ?_), fun q => absurd q (by decide)⟩
    intro M7 e7
    have f7 : ∀ o, o ≠ 41 → M7 o = A o := fun o h2 => by rw [e7, va_up_ne _ _ h2]
    have fA : ∀ o, (o < 20 ∨ 30 ≤ o) → o ≠ 18 → o ≠ 41 → M7 o = M o := fun o h1 h2 h3 => by rw [f7 o h3, hA.1 o (by omega), f5 o h2, fN o (by omega)]
    have a20 : M7 20 0 = nI p := by rw [f7 20 (by decide), hA.2.1, f5 25 (by decide)]; exact cN.1
    have a21 : M7 20 1 = 0 := by rw [f7 20 (by decide), hA.2.2.1, f5 25 (by decide)]; exact wN
    have aK : ∀ j, j < p → M7 21 j = K j := fun j hj => by rw [f7 21 (by decide), (hA.2.2.2 j hj).1, f5 (25 + 1) (by decide)]; exact cN.2.1 j hj
    have aV : ∀ j, j < p → M7 22 j = V j := fun j hj => by rw [f7 22 (by decide), (hA.2.2.2 j hj).2.1, f5 (25 + 2) (by decide)]; exact cN.2.2.1 j hj
    have aB : ∀ j, j < p → M7 23 j = B j := fun j hj => by rw [f7 23 (by decide), (hA.2.2.2 j hj).2.2.1, f5 (25 + 3) (by decide)]; exact cN.2.2.2.1 j hj
    have aS : ∀ j, j < p → M7 24 j = 0 := fun j hj => by rw [f7 24 (by decide), (hA.2.2.2 j hj).2.2.2, f5 (25 + 4) (by decide)]; exact cN.2.2.2.2 j hj
    have a18 : M7 18 = upd (M 18) 0 0 := by rw [f7 18 (by decide), hA.1 18 (by omega), g5]
    have a41 : M7 41 = upd (M 41) 0 0 := by
      rw [e7]; show va_up A 41 _ 41 = _
      rw [va_up_self, show A (0 + 41) = A 41 from rfl, hA.1 41 (by omega), f5 41 (by decide), fN 41 (by omega)]
    rw [show M7 (0 + 20) 0 = nI p from a20]
    refine p8_rail (L := L) (b := b) ⟨?_, by omega, fun j hj => ?_, fun j hj => ?_⟩ (fun P e2 s2 hr2 => ?_) (fun P p2 K2 V2 B2 hr2 fP gP q1 q2 q8 hp2 rP => ?_)
    · rw [fA 200 (by omega) (by decide) (by decide), ← t1]; exact eL
    · rw [fA 205 (by omega) (by decide) (by decide), hb]; exact (t5 j (by omega) (by omega)).1.symm
    · rw [hb]; exact (t5 j (by omega) (by omega)).2.1
    · rw [hr] at hr2; exact absurd hr2 (by intro q; cases q)
    · rw [hr] at hr2
      have hq := Sum.inr.inj hr2
      obtain ⟨rfl, rfl, rfl, rfl⟩ : p = p2 ∧ K = K2 ∧ V = V2 ∧ B = B2 := ⟨congrArg Prod.fst hq, congrArg (fun x => x.2.1) hq, congrArg (fun x => x.2.2.1) hq, congrArg (fun x => x.2.2.2) hq⟩
      refine ⟨rfl, ?_⟩
      have g : ∀ o, (o < 20 ∨ 30 ≤ o) → o ≠ 18 → o ≠ 41 → o ≠ 200 → o ≠ 206 → o ≠ 207 → P o = M o := fun o h1 h2 h3 h4 h5 h6 => by rw [fP o h4 h5 h6, fA o h1 h2 h3]
      have gl : ∀ o, o < 200 → P o = M7 o := fun o h1 => fP o (by omega) (by omega) (by omega)
      have g2 : ∀ k, k = 0 ∨ 8 < k → P 200 k = M 200 k := fun k hk => by rw [gP k hk, fA 200 (by omega) (by decide) (by decide)]
      have p18 : P 18 = upd (M 18) 0 0 := by rw [gl 18 (by omega), a18]
      have p41 : P 41 = upd (M 41) 0 0 := by rw [gl 41 (by omega), a41]
      obtain ⟨a1, b1, c1, d1, ⟨i0, i1⟩, ⟨h1, hh, hx, hx1, hx2, hx3, hx4, hx5⟩, j1, k1, l1⟩ := hI
      refine ⟨fun r hr => cRow_of (a1 r hr) (by rw [g 201 (by omega) (by omega) (by omega) (by omega) (by omega) (by omega)]) (by rw [g 202 (by omega) (by omega) (by omega) (by omega) (by omega) (by omega)]) (fun k _ => by rw [g 203 (by omega) (by omega) (by omega) (by omega) (by omega) (by omega)]) (g _ (by omega) (by omega) (by omega) (by omega) (by omega) (by omega)) (g _ (by omega) (by omega) (by omega) (by omega) (by omega) (by omega)), ?_, ?_, ⟨?_, Or.inr ?_⟩, ⟨cImg_of i0 (by rw [g 211 (by omega) (by omega) (by omega) (by omega) (by omega) (by omega)]) (fun j hj => g _ (by omega) (by omega) (by omega) (by omega) (by omega) (by omega)) (g _ (by omega) (by omega) (by omega) (by omega) (by omega) (by omega)), cImg_of i1 (by rw [g 211 (by omega) (by omega) (by omega) (by omega) (by omega) (by omega)]) (fun j hj => g _ (by omega) (by omega) (by omega) (by omega) (by omega) (by omega)) (g _ (by omega) (by omega) (by omega) (by omega) (by omega) (by omega))⟩, ⟨?_, 0, hx, ?_, ?_, by omega, hx4, fun j hj => by omega⟩, cAsk_of j1 (g _ (by omega) (by omega) (by omega) (by omega) (by omega) (by omega)) (g _ (by omega) (by omega) (by omega) (by omega) (by omega) (by omega)) (g2 11 (by omega)) (g _ (by omega) (by omega) (by omega) (by omega) (by omega) (by omega)), cSet_of k1 (by rw [g 165 (by omega) (by omega) (by omega) (by omega) (by omega) (by omega)]) (by rw [g 165 (by omega) (by omega) (by omega) (by omega) (by omega) (by omega)]), hS M P l1 (fun o h1 h2 => g o (by omega) (by omega) (by omega) (by omega) (by omega) (by omega))⟩
      · rw [g 0 (by omega) (by omega) (by omega) (by omega) (by omega) (by omega), g2 0 (by omega)]; exact b1
      · refine ⟨?_, ?_, ?_, ?_⟩
        · rw [p18, pk_us, q1]
        · rw [p18, pk_un (by decide), q2, fA 200 (by omega) (by decide) (by decide)]; exact t2
        · rw [p18, pk_us, t0]; omega
        · intro k hk hk2
          rw [p18, pk_us, t0] at hk2
          omega
      · refine rel_row (o := 20) (row_of rP ?_ (fun k hk => ?_) (fun k hk => ?_) (fun k hk => ?_) (fun k hk => ?_)) (by rw [gl 20 (by omega)]; exact a20) p12
        · rw [gl 20 (by omega)]; exact a21.symm
        · rw [gl (20 + 1) (by omega)]; exact (aK k hk).symm
        · rw [gl (20 + 2) (by omega)]; exact (aV k hk).symm
        · rw [gl (20 + 3) (by omega)]; exact (aB k hk).symm
        · rw [gl (20 + 4) (by omega)]; exact (aS k hk).symm
      · refine ⟨p, by rw [gl 20 (by omega)]; exact a20, h3, p12, ?_, fun k hk => ?_⟩
        · rw [gl 20 (by omega), a21, t0]; omega
        · rw [gl (20 + 1) (by omega), gl (20 + 2) (by omega), gl (20 + 3) (by omega), gl (20 + 4) (by omega), show M7 (20 + 1) k = K k from aK k hk, show M7 (20 + 2) k = V k from aV k hk, show M7 (20 + 3) k = B k from aB k hk, show M7 (20 + 4) k = 0 from aS k hk, t0]
          have := iv.2.2.2 k hk
          omega
      · rw [p41, pk_us, q8]
      · rw [p41, pk_us]; rfl
      · rw [p41, pk_un (by decide)]; exact hx2
end RB
