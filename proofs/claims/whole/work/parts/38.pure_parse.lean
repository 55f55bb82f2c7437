/-! PURE: rail(), the text as numbers, and the class's side -/
def dg (b : Nat → Int32) (L j : Nat) : Bool := decide (j < L ∧ 48 ≤ (b j).toInt ∧ (b j).toInt ≤ 57)
theorem dg_t {b : Nat → Int32} {L j : Nat} (h : dg b L j = true) : j < L ∧ 48 ≤ (b j).toInt ∧ (b j).toInt ≤ 57 := of_decide_eq_true h
theorem dg_f {b : Nat → Int32} {L j : Nat} (h : ¬ dg b L j = true) : ¬ (j < L ∧ 48 ≤ (b j).toInt ∧ (b j).toInt ≤ 57) := fun q => h (decide_eq_true q)
/-- how many figures stand from a place on -/
def fg (b : Nat → Int32) (L : Nat) : Nat → Nat → Nat
  | 0, _ => 0
  | f + 1, s => if dg b L s = true then fg b L f (s + 1) + 1 else 0
def fig (b : Nat → Int32) (L s : Nat) : Nat := fg b L (L - s) s
theorem fig_t {b : Nat → Int32} {L s : Nat} (h : dg b L s = true) : fig b L s = fig b L (s + 1) + 1 := by
  have := dg_t h
  unfold fig
  rw [show L - s = (L - (s + 1)) + 1 by omega]
  exact if_pos h
theorem fig_f {b : Nat → Int32} {L s : Nat} (h : ¬ dg b L s = true) : fig b L s = 0 := by
  unfold fig
  cases L - s with
  | zero => rfl
  | succ f => exact if_neg h
theorem fig_L {b : Nat → Int32} {L s : Nat} (h : L ≤ s) : fig b L s = 0 := fig_f (fun q => by have := dg_t q; omega)
theorem fig_le {b : Nat → Int32} {L : Nat} : ∀ d s, s + d = L → s + fig b L s ≤ L := by
  intro d
  induction d with
  | zero => intro s hs; rw [fig_L (by omega)]; omega
  | succ d ih =>
    intro s hs
    by_cases c : dg b L s = true
    · rw [fig_t c]; have := ih (s + 1) (by omega); omega
    · rw [fig_f c]; omega
def nv (b : Nat → Int32) (s : Nat) : Nat → Int32
  | 0 => 0
  | 1 => 0 * 10 + b s - 48
  | _ + 2 => (0 * 10 + b s - 48) * 10 + b (s + 1) - 48
def num (b : Nat → Int32) (L s : Nat) : Int32 := nv b s (fig b L s)
def nxt (b : Nat → Int32) (L s : Nat) : Nat := s + (if fig b L s = 0 then 1 else fig b L s)
theorem nxt_lt (b : Nat → Int32) (L s : Nat) : s < nxt b L s := by
  unfold nxt
  by_cases c : fig b L s = 0
  · rw [if_pos c]; omega
  · rw [if_neg c]; omega
theorem nxt_le {b : Nat → Int32} {L s : Nat} (h : s < L) : nxt b L s ≤ L := by
  unfold nxt
  by_cases c : fig b L s = 0
  · rw [if_pos c]; omega
  · rw [if_neg c]; exact fig_le (L - s) s (by omega)
def knd (c : Int32) : Int32 := if c.toInt = 98 then 4 else if c.toInt = 101 then 5 else if c.toInt = 106 then 3 else if c.toInt = 112 then 1 else if c.toInt = 115 then 2 else 0
theorem p6_kindOf {M : zM} {c : Int32} {Q : Int32 → Prop} (h : Q (knd c)) : wX6_kindOf M c Q := by
  unfold wX6_kindOf
  unfold knd at h
  refine ⟨fun q => ?_, fun q => ?_, fun q => ?_, fun q => ?_, fun q => ?_, fun q => ?_⟩
  · rwa [if_pos q] at h
  · rwa [if_neg (by omega), if_pos q] at h
  · rwa [if_neg (by omega), if_neg (by omega), if_pos q] at h
  · rwa [if_neg (by omega), if_neg (by omega), if_neg (by omega), if_pos q] at h
  · rwa [if_neg (by omega), if_neg (by omega), if_neg (by omega), if_neg (by omega), if_pos q] at h
  · rwa [if_neg (by omega), if_neg (by omega), if_neg (by omega), if_neg (by omega), if_neg (by omega)] at h
theorem knd_rng (c : Int32) : 0 ≤ (knd c).toInt ∧ (knd c).toInt ≤ 5 := by
  unfold knd
  repeat' split
  all_goals decide
theorem knd_let {c : Int32} (h : ¬ knd c = 0) : 97 ≤ c.toInt ∧ c.toInt ≤ 122 := by
  unfold knd at h
  by_cases c1 : c.toInt = 98
  · omega
  · by_cases c2 : c.toInt = 101
    · omega
    · by_cases c3 : c.toInt = 106
      · omega
      · by_cases c4 : c.toInt = 112
        · omega
        · by_cases c5 : c.toInt = 115
          · omega
          · rw [if_neg c1, if_neg c2, if_neg c3, if_neg c4, if_neg c5] at h
            exact absurd rfl h
theorem p6_figuresAt {M : zM} {s L : Nat} {b : Nat → Int32} {Q : Int32 → Prop} (hL : M 18 0 = nI L) (h120 : L ≤ 120) (hb : ∀ j, j < L → M 19 j = b j) (hs : s ≤ L) (h : Q (nI (fig b L s))) : wX6_figuresAt M 18 (nI s) Q := by
  have fin : ∀ j, s ≤ j → fig b L s = (j - s) + fig b L j → fig b L j = 0 → Q (nI j - nI s) := by
    intro j h1 h2 h3
    rw [pk_sub h1, show j - s = fig b L s by omega]
    exact h
  have key : ∀ d j, j + d = L → s ≤ j → fig b L s = (j - s) + fig b L j → lpX6_figuresAt_2 M 18 (nI s) Q (d + 1) (nI j) := by
    intro d
    induction d with
    | zero =>
      intro j hj h1 h2
      unfold lpX6_figuresAt_2
      rw [hL]
      exact ⟨fun _ => fin j h1 h2 (fig_L (by omega)), fun c => absurd (nI_le (by omega) (by omega)) c⟩
    | succ d ih =>
      intro j hj h1 h2
      unfold lpX6_figuresAt_2
      rw [hL, cl_of (by omega), show M (18 + 1) j = b j from hb j (by omega)]
      refine ⟨fun c => absurd c (nI_ge (by omega) (by omega)), fun _ => ⟨vp_of (by omega) (by omega), fun c => ?_, fun c => ⟨vp_of (by omega) (by omega), fun c2 => ?_, fun c2 x e => ?_⟩⟩⟩
      · rw [pn_lt, show (48 : Int32).toInt = 48 from rfl] at c
        exact fin j h1 h2 (fig_f (fun q => by have := dg_t q; omega))
      · rw [pn_lt, show (57 : Int32).toInt = 57 from rfl] at c2
        exact fin j h1 h2 (fig_f (fun q => by have := dg_t q; omega))
      · rw [pn_lt, show (48 : Int32).toInt = 48 from rfl] at c
        rw [pn_lt, show (57 : Int32).toInt = 57 from rfl] at c2
        have hd : dg b L j = true := decide_eq_true ⟨by omega, by omega, by omega⟩
        rw [e, nI_1]
        refine ih (j + 1) (by omega) (by omega) ?_
        rw [h2, fig_t hd]; omega
  exact ⟨L - s + 1, key (L - s) s (by omega) (Nat.le_refl _) (by omega)⟩
theorem zmin_2 {f : Nat} (h : f ≤ 120) : zmin 2 (nI f) = nI (if f < 2 then f else 2) := by
  unfold zmin
  by_cases c : f < 2
  · rw [if_pos c, if_pos (by rw [pn_lt, pn_n (by omega), show (2 : Int32).toInt = 2 from rfl]; omega)]
  · rw [if_neg c, if_neg (by rw [pn_lt, pn_n (by omega), show (2 : Int32).toInt = 2 from rfl]; omega)]; rfl
theorem nv_min (b : Nat → Int32) (s f : Nat) : nv b s (if f < 2 then f else 2) = nv b s f := by
  match f with
  | 0 => rfl
  | 1 => rfl
  | f + 2 => rw [if_neg (by omega)]; rfl
theorem nv_s {b : Nat → Int32} {s i : Nat} (h : i < 2) : nv b s i * 10 + b (s + i) - 48 = nv b s (i + 1) := by
  match i, h with
  | 0, _ => rfl
  | 1, _ => rfl
theorem p6_numberAt {M : zM} {s L : Nat} {b : Nat → Int32} {Q : Int32 → Prop} (hL : M 18 0 = nI L) (h120 : L ≤ 120) (hb : ∀ j, j < L → M 19 j = b j) (hs : s ≤ L) (h : Q (num b L s)) : wX6_numberAt M 18 (nI s) Q := by
  have hf := fig_le (b := b) (L := L) (L - s) s (by omega)
  refine p6_figuresAt hL h120 hb hs ?_
  have key : ∀ d i, i + d = (if fig b L s < 2 then fig b L s else 2) → lpX6_numberAt_17 M 18 (nI s) (nI (fig b L s)) Q (d + 1) (nv b s i) (nI (s + i)) := by
    have hm : (if fig b L s < 2 then fig b L s else 2) ≤ 2 ∧ (if fig b L s < 2 then fig b L s else 2) ≤ fig b L s := by split <;> omega
    intro d
    induction d with
    | zero =>
      intro i hi
      unfold lpX6_numberAt_17
      rw [zmin_2 (by omega), nI_add]
      refine ⟨fun _ => ?_, fun c => absurd (nI_le (by omega) (by omega)) c⟩
      rw [show i = (if fig b L s < 2 then fig b L s else 2) by omega, nv_min]
      exact h
    | succ d ih =>
      intro i hi
      unfold lpX6_numberAt_17
      rw [zmin_2 (by omega), nI_add, cl_of (by omega), show M (18 + 1) (s + i) = b (s + i) from hb _ (by omega)]
      refine ⟨fun c => absurd c (nI_ge (by omega) (by omega)), fun _ => ⟨vp_of (by omega) (by omega), fun x7 e7 x8 e8 => ?_⟩⟩
      rw [e8, e7, nI_1, nv_s (by omega)]
      exact ih (i + 1) (by omega)
  exact ⟨_, key _ 0 (Nat.zero_add _)⟩
theorem num_rng {b : Nat → Int32} {L s : Nat} (h1 : ¬ fig b L s = 0) : 0 ≤ (num b L s).toInt ∧ (num b L s).toInt ≤ 99 := by
  have hd : dg b L s = true := by
    by_cases c : dg b L s = true
    · exact c
    · exact absurd (fig_f c) h1
  obtain ⟨d1, d2, d3⟩ := dg_t hd
  have e1 : ((0 : Int32) * 10 + b s - 48).toInt = (b s).toInt - 48 := by
    rw [show (0 : Int32) * 10 = 0 by decide, Int32.zero_add, pn_sub (by rw [show (48 : Int32).toInt = 48 from rfl]; omega) (by rw [show (48 : Int32).toInt = 48 from rfl]; omega), show (48 : Int32).toInt = 48 from rfl]
  unfold num
  obtain ⟨f, hf⟩ : ∃ f, f = fig b L s := ⟨_, rfl⟩
  rw [← hf] at h1 ⊢
  match f, h1, hf with
  | 1, _, _ => show 0 ≤ ((0 : Int32) * 10 + b s - 48).toInt ∧ ((0 : Int32) * 10 + b s - 48).toInt ≤ 99; rw [e1]; omega
  | f + 2, _, hf =>
    rw [fig_t hd] at hf
    have hd2 : dg b L (s + 1) = true := by
      by_cases c : dg b L (s + 1) = true
      · exact c
      · rw [fig_f c] at hf; omega
    obtain ⟨d4, d5, d6⟩ := dg_t hd2
    have e2 : (((0 : Int32) * 10 + b s - 48) * 10).toInt = ((b s).toInt - 48) * 10 := by
      rw [pn_mul (by rw [e1, show (10 : Int32).toInt = 10 from rfl]; omega) (by rw [e1, show (10 : Int32).toInt = 10 from rfl]; omega), e1]; rfl
    have e3 : (((0 : Int32) * 10 + b s - 48) * 10 + b (s + 1)).toInt = ((b s).toInt - 48) * 10 + (b (s + 1)).toInt := by
      rw [pn_add (by rw [e2]; omega) (by rw [e2]; omega), e2]
    show 0 ≤ (((0 : Int32) * 10 + b s - 48) * 10 + b (s + 1) - 48).toInt ∧ (((0 : Int32) * 10 + b s - 48) * 10 + b (s + 1) - 48).toInt ≤ 99
    rw [pn_sub (by rw [e3, show (48 : Int32).toInt = 48 from rfl]; omega) (by rw [e3, show (48 : Int32).toInt = 48 from rfl]; omega), e3, show (48 : Int32).toInt = 48 from rfl]
    omega
/-- the fault of what begins at a place, if the token of number t should -/
def pNum (b : Nat → Int32) (L s : Nat) (m : Int32) : Int32 := if fig b L s = 0 ∨ 2 < fig b L s then 1 else if num b L s ≤ m then 0 else 2
def pFault (b : Nat → Int32) (L t s p : Nat) : Int32 := if t = 0 then (if knd (b s) = 0 then 1 else if p < 12 then 0 else 3) else if t = 1 then pNum b L s 60 else if t = 2 then (if b s = 44 then 0 else 1) else if t = 3 then pNum b L s 3 else (if b s = 59 then 0 else 1)
abbrev pR : Type := Sum (Int32 × Nat) (Nat × (Nat → Int32) × (Nat → Int32) × (Nat → Int32))
def pFin (L t p : Nat) (K V B : Nat → Int32) : pR := if t = 0 ∧ ¬ p = 0 then (if p < 3 then Sum.inl (4, L) else Sum.inr (p, K, V, B)) else Sum.inl (1, L)
def pTok (b : Nat → Int32) (L : Nat) : Nat → Nat → Nat → Int32 → Int32 → Nat → (Nat → Int32) → (Nat → Int32) → (Nat → Int32) → pR
  | 0, t, _, _, _, p, K, V, B => pFin L t p K V B
  | d + 1, t, s, k, v, p, K, V, B => if L ≤ s then pFin L t p K V B else if pFault b L t s p = 0 then (if t = 0 then pTok b L d 1 (nxt b L s) (knd (b s)) v p K V B else if t = 1 then pTok b L d 2 (nxt b L s) k (num b L s) p K V B else if t = 2 then pTok b L d 3 (nxt b L s) k v p K V B else if t = 3 then pTok b L d 4 (nxt b L s) k v (p + 1) (upd K p k) (upd V p v) (upd B p (num b L s)) else pTok b L d 0 (nxt b L s) k v p K V B) else Sum.inl (pFault b L t s p, s)
theorem pTok_end {b : Nat → Int32} {L d t s p : Nat} {k v : Int32} {K V B : Nat → Int32} (h : L ≤ s) : pTok b L d t s k v p K V B = pFin L t p K V B := by
  cases d with
  | zero => rfl
  | succ d => exact if_pos h
theorem pTok_f {b : Nat → Int32} {L d t s p : Nat} {k v : Int32} {K V B : Nat → Int32} (h : ¬ L ≤ s) (h2 : ¬ pFault b L t s p = 0) : pTok b L (d + 1) t s k v p K V B = Sum.inl (pFault b L t s p, s) := by
  show (if L ≤ s then _ else if pFault b L t s p = 0 then _ else _) = _
  rw [if_neg h, if_neg h2]
theorem pTok_g {b : Nat → Int32} {L d t s p : Nat} {k v : Int32} {K V B : Nat → Int32} (h : ¬ L ≤ s) (h2 : pFault b L t s p = 0) : pTok b L (d + 1) t s k v p K V B = (if t = 0 then pTok b L d 1 (nxt b L s) (knd (b s)) v p K V B else if t = 1 then pTok b L d 2 (nxt b L s) k (num b L s) p K V B else if t = 2 then pTok b L d 3 (nxt b L s) k v p K V B else if t = 3 then pTok b L d 4 (nxt b L s) k v (p + 1) (upd K p k) (upd V p v) (upd B p (num b L s)) else pTok b L d 0 (nxt b L s) k v p K V B) := by
  show (if L ≤ s then _ else if pFault b L t s p = 0 then _ else _) = _
  rw [if_neg h, if_pos h2]
theorem p2_add {M : zM} {p : Nat} {k v x : Int32} {Q : zM → Prop} (hp : M 25 0 = nI p) (h12 : p < 12) (h : ∀ N : zM, (∀ o, o < 25 ∨ 30 ≤ o → N o = M o) → N 25 0 = nI (p + 1) → N 25 1 = M 25 1 → N 26 = upd (M 26) p k → N 27 = upd (M 27) p v → N 28 = upd (M 28) p x → N 29 = upd (M 29) p 0 → Q N) : wX2_add M 25 k v x Q := by
  unfold wX2_add
  rw [hp, cl_of (by omega)]
  refine ⟨fun _ => ⟨vp_of (by omega) (by omega), fun M6 e6 => ?_⟩, fun c => absurd (nI_lt (show p < 12 by omega) (by decide)) c⟩
  have g6 : M6 25 = M 25 := by rw [e6, va_up_ne _ _ (by omega)]
  rw [g6, hp, cl_of (by omega)]
  refine ⟨vp_of (by omega) (by omega), fun M7 e7 => ?_⟩
  have g7 : M7 25 = M 25 := by rw [e7, va_up_ne _ _ (by omega), g6]
  rw [g7, hp, cl_of (by omega)]
  refine ⟨vp_of (by omega) (by omega), fun M8 e8 => ?_⟩
  have g8 : M8 25 = M 25 := by rw [e8, va_up_ne _ _ (by omega), g7]
  rw [g8, hp, cl_of (by omega)]
  refine ⟨vp_of (by omega) (by omega), fun M9 e9 M10 e10 => ?_⟩
  have g9 : M9 25 = M 25 := by rw [e9, va_up_ne _ _ (by omega), g8]
  rw [g9, hp, nI_1] at e10
  have f6 : ∀ o, o ≠ 26 → M6 o = M o := fun o ho => by rw [e6, va_up_ne _ _ ho]
  have f7 : ∀ o, o ≠ 27 → M7 o = M6 o := fun o ho => by rw [e7, va_up_ne _ _ ho]
  have f8 : ∀ o, o ≠ 28 → M8 o = M7 o := fun o ho => by rw [e8, va_up_ne _ _ ho]
  have f9 : ∀ o, o ≠ 29 → M9 o = M8 o := fun o ho => by rw [e9, va_up_ne _ _ ho]
  have f10 : ∀ o, o ≠ 25 → M10 o = M9 o := fun o ho => by rw [e10, va_up_ne _ _ ho]
  refine h M10 (fun o ho => ?_) ?_ ?_ ?_ ?_ ?_ ?_
  · rw [f10 o (by omega), f9 o (by omega), f8 o (by omega), f7 o (by omega), f6 o (by omega)]
  · rw [e10, va_up_self, pk_us]
  · rw [e10, va_up_self, pk_un (by decide)]
  · rw [f10 26 (by omega), f9 26 (by omega), f8 26 (by omega), f7 26 (by omega), e6]; exact va_up_self _ _ _
  · rw [f10 27 (by omega), f9 27 (by omega), f8 27 (by omega), e7]
    show va_up M6 27 _ 27 = _
    rw [va_up_self, show M6 (25 + 2) = M 27 from f6 27 (by omega)]
  · rw [f10 28 (by omega), f9 28 (by omega), e8]
    show va_up M7 28 _ 28 = _
    rw [va_up_self, show M7 (25 + 3) = M 28 from (f7 28 (by omega)).trans (f6 28 (by omega))]
  · rw [f10 29 (by omega), e9]
    show va_up M8 29 _ 29 = _
    rw [va_up_self, show M8 (25 + 4) = M 29 from (f8 29 (by omega)).trans ((f7 29 (by omega)).trans (f6 29 (by omega)))]
theorem p6_faultOfNumber {M : zM} {s L : Nat} {b : Nat → Int32} {m : Int32} {Q : Int32 → Prop} (hL : M 18 0 = nI L) (h120 : L ≤ 120) (hb : ∀ j, j < L → M 19 j = b j) (hs : s ≤ L) (h : Q (pNum b L s m)) : wX6_faultOfNumber M 18 (nI s) m Q := by
  have hf := fig_le (b := b) (L := L) (L - s) s (by omega)
  unfold wX6_faultOfNumber
  unfold pNum at h
  refine p6_figuresAt hL h120 hb hs ⟨fun c => ?_, fun c => ⟨fun d => p6_numberAt hL h120 hb hs ⟨fun g => ?_, fun g => ?_⟩, fun d => ?_⟩⟩
  · have c := (nI_eq (b := 0) (by omega) (by omega)).1 c
    rwa [if_pos (Or.inl c)] at h
  · have c : ¬ fig b L s = 0 := fun q => c (by rw [q]; rfl)
    rw [pn_le, pn_n (by omega), show (2 : Int32).toInt = 2 from rfl] at d
    rwa [if_neg (by omega), if_pos g] at h
  · have c : ¬ fig b L s = 0 := fun q => c (by rw [q]; rfl)
    rw [pn_le, pn_n (by omega), show (2 : Int32).toInt = 2 from rfl] at d
    rwa [if_neg (by omega), if_neg g] at h
  · rw [pn_le, pn_n (by omega), show (2 : Int32).toInt = 2 from rfl] at d
    rwa [if_pos (by omega)] at h
theorem p6_faultAt {M : zM} {s L t p : Nat} {b : Nat → Int32} {Q : Int32 → Prop} (hL : M 18 0 = nI L) (h120 : L ≤ 120) (hb : ∀ j, j < L → M 19 j = b j) (hs : s < L) (ht : t ≤ 4) (hp : M 25 0 = nI p) (p12 : p ≤ 12) (h : Q (pFault b L t s p)) : wX6_faultAt M 18 (nI s) (nI t) 25 Q := by
  unfold wX6_faultAt
  unfold pFault at h
  rw [pn_n (by omega), cl_of (by omega), show M (18 + 1) s = b s from hb s hs, hp]
  refine ⟨fun c => ⟨vp_of (by omega) (by omega), fun d => ?_, fun d => ?_⟩, fun c => ⟨vp_of (by omega) (by omega), p6_kindOf ⟨fun d => ⟨fun g => ?_, fun g => ?_⟩, fun d => ?_⟩⟩, fun c => p6_faultOfNumber hL h120 hb (by omega) ?_, fun c => ⟨vp_of (by omega) (by omega), fun d => ?_, fun d => ?_⟩, fun c => p6_faultOfNumber hL h120 hb (by omega) ?_⟩
  · rwa [if_neg (by omega), if_neg (by omega), if_neg (by omega), if_neg (by omega), if_neg d] at h
  · rwa [if_neg (by omega), if_neg (by omega), if_neg (by omega), if_neg (by omega), if_pos d] at h
  · rw [pn_lt, pn_n (by omega), show (12 : Int32).toInt = 12 from rfl] at g
    rwa [if_pos (by omega), if_neg d, if_pos (by omega)] at h
  · rw [pn_lt, pn_n (by omega), show (12 : Int32).toInt = 12 from rfl] at g
    rwa [if_pos (by omega), if_neg d, if_neg (by omega)] at h
  · rwa [if_pos (by omega), if_pos d] at h
  · rwa [if_neg (by omega), if_pos (by omega)] at h
  · rwa [if_neg (by omega), if_neg (by omega), if_pos (by omega), if_neg d] at h
  · rwa [if_neg (by omega), if_neg (by omega), if_pos (by omega), if_pos d] at h
  · rwa [if_neg (by omega), if_neg (by omega), if_neg (by omega), if_pos (by omega)] at h
theorem zmax_1 {f : Nat} (h : f ≤ 120) : zmax 1 (nI f) = nI (if f = 0 then 1 else f) := by
  unfold zmax
  by_cases c : f = 0
  · rw [if_pos c, c]; rfl
  · rw [if_neg c]
    by_cases c2 : (1 : Int32) < nI f
    · rw [if_pos c2]
    · rw [if_neg c2]
      rw [pn_lt, pn_n (by omega), t1] at c2
      rw [show f = 1 by omega]; rfl
/-- what is known of the numbers read so far -/
def pIv (t : Nat) (k v : Int32) (p : Nat) (K V B : Nat → Int32) : Prop := p ≤ 12 ∧ ((t = 1 ∨ t = 2 ∨ t = 3) → p < 12 ∧ 1 ≤ k.toInt ∧ k.toInt ≤ 5) ∧ ((t = 2 ∨ t = 3) → 0 ≤ v.toInt ∧ v.toInt ≤ 60) ∧ ∀ j, j < p → (1 ≤ (K j).toInt ∧ (K j).toInt ≤ 5) ∧ (0 ≤ (V j).toInt ∧ (V j).toInt ≤ 60) ∧ (0 ≤ (B j).toInt ∧ (B j).toInt ≤ 3)
theorem pNum_0 {b : Nat → Int32} {L s : Nat} {m : Int32} (h : pNum b L s m = 0) : 1 ≤ fig b L s ∧ fig b L s ≤ 2 ∧ 0 ≤ (num b L s).toInt ∧ (num b L s).toInt ≤ m.toInt := by
  unfold pNum at h
  by_cases c : fig b L s = 0 ∨ 2 < fig b L s
  · rw [if_pos c] at h; exact absurd h (by decide)
  · rw [if_neg c] at h
    by_cases d : num b L s ≤ m
    · have := num_rng (b := b) (L := L) (s := s) (by omega)
      rw [pn_le] at d
      omega
    · rw [if_neg d] at h; exact absurd h (by decide)
theorem p6_parse {M : zM} {L : Nat} {b : Nat → Int32} {Q : Int32 → zM → Prop} (hL : M 18 0 = nI L) (h120 : L ≤ 120) (hb : ∀ j, j < L → M 19 j = b j)
    (hE : ∀ (N : zM) (e : Int32) (s : Nat), pTok b L L 0 0 0 0 0 zZ0 zZ0 zZ0 = Sum.inl (e, s) → (∀ o, (o < 25 ∨ 30 ≤ o) → o ≠ 18 → N o = M o) → N 18 = upd (upd (M 18) 1 e) 2 (nI s) → Q 0 N)
    (hO : ∀ (N : zM) (p : Nat) (K V B : Nat → Int32), pTok b L L 0 0 0 0 0 zZ0 zZ0 zZ0 = Sum.inr (p, K, V, B) → (∀ o, (o < 25 ∨ 30 ≤ o) → N o = M o) → clsOf N 25 p K V B zZ0 → N 25 1 = 0 → 3 ≤ p → pIv 0 0 0 p K V B → Q 1 N) : wX6_parse M 18 25 Q := by
  unfold wX6_parse
  intro M3 e3 M4 e4
  obtain ⟨R, hR⟩ : ∃ R, R = pTok b L L 0 0 0 0 0 zZ0 zZ0 zZ0 := ⟨_, rfl⟩
  rw [← hR] at hE hO
  have fail : ∀ (N : zM) (e x : Int32) (s : Nat) (P : Int32 → zM → Prop), x = nI s → R = Sum.inl (e, s) → (∀ o, (o < 25 ∨ 30 ≤ o) → N o = M o) → (∀ N2, Q 0 N2 → P 0 N2) → wX6_fail N 18 e x P := by
    intro N e x s P ex hr fN hP M5 e5 M6 e6
    refine hP M6 (hE M6 e s hr (fun o h1 h2 => by rw [e6, va_up_ne _ _ h2, e5, va_up_ne _ _ h2, fN o h1]) ?_)
    rw [e6, va_up_self, e5, va_up_self, fN 18 (by omega), ex]
  have key : ∀ (C : Int32 → Int32 → Int32 → Int32 → zM → Prop), (∀ (N : zM) (t s p : Nat) (k v : Int32) (K V B : Nat → Int32), t ≤ 4 → R = pFin L t p K V B → (∀ o, (o < 25 ∨ 30 ≤ o) → N o = M o) → clsOf N 25 p K V B zZ0 → N 25 1 = 0 → pIv t k v p K V B → C (nI t) k v (nI s) N) → ∀ d t s k v p K V B (N : zM), s ≤ L → L ≤ s + d → t ≤ 4 → R = pTok b L d t s k v p K V B → pIv t k v p K V B → (∀ o, (o < 25 ∨ 30 ≤ o) → N o = M o) → clsOf N 25 p K V B zZ0 → N 25 1 = 0 → lpX6_parse_14 18 25 Q C (d + 1) (nI t) k v (nI s) N := by
    intro C hC d
    induction d with
    | zero =>
      intro t s k v p K V B N h1 h2 ht hr iv fN cN wN
      have nL : N 18 0 = nI L := by rw [fN 18 (by omega)]; exact hL
      unfold lpX6_parse_14
      rw [nL]
      refine ⟨fun _ => hC N t s p k v K V B ht ?_ fN cN wN iv, fun c => absurd (nI_le (by omega) (by omega)) c⟩
      rw [hr]; rfl
    | succ d ih =>
      intro t s k v p K V B N h1 h2 ht hr iv fN cN wN
      have nL : N 18 0 = nI L := by rw [fN 18 (by omega)]; exact hL
      have nb : ∀ j, j < L → N 19 j = b j := fun j hj => by rw [fN 19 (by omega)]; exact hb j hj
      unfold lpX6_parse_14
      rw [nL]
      refine ⟨fun c => ?_, fun c => ?_⟩
      · rw [pn_le, pn_n (by omega), pn_n (by omega)] at c
        exact hC N t s p k v K V B ht (by rw [hr, pTok_end (by omega)]) fN cN wN iv
      · rw [pn_le, pn_n (by omega), pn_n (by omega)] at c
        have hs : s < L := by omega
        have hx := nxt_lt b L s
        have hx2 := nxt_le (b := b) hs
        refine p6_faultAt nL h120 nb hs ht cN.1 iv.1 ⟨fun z => ?_, fun z => ?_⟩
        · rw [pTok_g (by omega) z] at hr
          have jn : ∀ (N2 : zM) (k2 v2 : Int32) (p2 : Nat) (K2 V2 B2 : Nat → Int32), R = pTok b L d ((t + 1) % 5) (nxt b L s) k2 v2 p2 K2 V2 B2 → pIv ((t + 1) % 5) k2 v2 p2 K2 V2 B2 → (∀ o, (o < 25 ∨ 30 ≤ o) → N2 o = M o) → clsOf N2 25 p2 K2 V2 B2 zZ0 → N2 25 1 = 0 → jnX6_parse_99 18 (nI t) (nI s) (lpX6_parse_14 18 25 Q C (d + 1)) k2 v2 N2 := by
            intro N2 k2 v2 p2 K2 V2 B2 hr2 iv2 fN2 cN2 wN2 x29 e29
            have hf := fig_le (b := b) (L := L) (L - s) s (by omega)
            rw [nI_1, show (5 : Int32) = nI 5 from rfl, pk_rem (by omega) (by omega) (by omega)] at e29
            refine p6_figuresAt (b := b) (L := L) (by rw [fN2 18 (by omega)]; exact hL) h120 (fun j hj => by rw [fN2 19 (by omega)]; exact hb j hj) h1 ?_
            rw [zmax_1 (by omega), nI_add, e29]
            exact ih ((t + 1) % 5) (nxt b L s) k2 v2 p2 K2 V2 B2 N2 hx2 (by omega) (by omega) hr2 iv2 fN2 cN2 wN2
          obtain ⟨iv1, iv2, iv3, iv4⟩ := iv
          refine ⟨fun q0 => ⟨fun q1 => ⟨fun q3 => ?_, fun q3 => ?_⟩, fun q1 => ?_⟩, fun q0 => ?_⟩
          · have q0 : ¬ t = 0 := fun q => q0 (by rw [q]; rfl)
            have q1 : ¬ t = 1 := fun q => q1 (by rw [q]; rfl)
            have q3 : ¬ t = 3 := fun q => q3 (by rw [q]; rfl)
            by_cases q2 : t = 2
            · subst q2
              exact jn N k v p K V B hr ⟨iv1, fun _ => iv2 (by omega), fun _ => iv3 (by omega), iv4⟩ fN cN wN
            · obtain rfl : t = 4 := by omega
              exact jn N k v p K V B hr ⟨iv1, fun q => by omega, fun q => by omega, iv4⟩ fN cN wN
          · have q3 := (nI_eq (b := 3) (by omega) (by omega)).1 q3
            subst q3
            obtain ⟨w1, w2, w3, w4⟩ := pNum_0 (b := b) (L := L) (s := s) (m := 3) z
            rw [show (3 : Int32).toInt = 3 from rfl] at w4
            obtain ⟨i1, i2⟩ := iv2 (by omega)
            have i3 := iv3 (by omega)
            refine p6_numberAt nL h120 nb h1 (p2_add cN.1 i1 (fun N2 f2 g0 g1 g2 g3 g4 g5 => ?_))
            refine jn N2 k v (p + 1) (upd K p k) (upd V p v) (upd B p (num b L s)) hr ⟨by omega, fun q => by omega, fun q => by omega, fun j hj => ?_⟩ (fun o ho => by rw [f2 o ho, fN o ho]) ⟨g0, fun j hj => ?_, fun j hj => ?_, fun j hj => ?_, fun j hj => ?_⟩ (by rw [g1]; exact wN)
            · by_cases c : j = p
              · rw [c, pk_us, pk_us, pk_us]; omega
              · rw [pk_un c, pk_un c, pk_un c]; exact iv4 j (by omega)
            · show N2 26 j = _
              rw [g2]
              by_cases c : j = p
              · rw [c, pk_us, pk_us]
              · rw [pk_un c, pk_un c]; exact cN.2.1 j (by omega)
            · show N2 27 j = _
              rw [g3]
              by_cases c : j = p
              · rw [c, pk_us, pk_us]
              · rw [pk_un c, pk_un c]; exact cN.2.2.1 j (by omega)
            · show N2 28 j = _
              rw [g4]
              by_cases c : j = p
              · rw [c, pk_us, pk_us]
              · rw [pk_un c, pk_un c]; exact cN.2.2.2.1 j (by omega)
            · show N2 29 j = _
              rw [g5]
              by_cases c : j = p
              · rw [c, pk_us]; rfl
              · rw [pk_un c]; exact cN.2.2.2.2 j (by omega)
          · have q1 := (nI_eq (b := 1) (by omega) (by omega)).1 q1
            subst q1
            obtain ⟨w1, w2, w3, w4⟩ := pNum_0 (b := b) (L := L) (s := s) (m := 60) z
            rw [show (60 : Int32).toInt = 60 from rfl] at w4
            exact p6_numberAt nL h120 nb h1 (jn N k (num b L s) p K V B hr ⟨iv1, fun _ => iv2 (by omega), fun _ => ⟨w3, w4⟩, iv4⟩ fN cN wN)
          · have q0 := (nI_eq (b := 0) (by omega) (by omega)).1 q0
            subst q0
            rw [cl_of (by omega), show N (18 + 1) s = b s from nb s hs]
            refine ⟨vp_of (by omega) (by omega), p6_kindOf (jn N (knd (b s)) v p K V B hr ⟨iv1, fun _ => ?_, fun q => by omega, iv4⟩ fN cN wN)⟩
            have z : (if knd (b s) = 0 then (1 : Int32) else if p < 12 then 0 else 3) = 0 := z
            by_cases z1 : knd (b s) = 0
            · rw [if_pos z1] at z; exact absurd z (by decide)
            · rw [if_neg z1] at z
              by_cases z2 : p < 12
              · have := knd_rng (b s)
                have : ¬ (knd (b s)).toInt = 0 := fun q => z1 (by rw [pn_eq, t0]; exact q)
                omega
              · rw [if_neg z2] at z; exact absurd z (by decide)
        · exact fail N _ _ s _ rfl (by rw [hr, pTok_f (by omega) z]) fN (fun N2 h => ⟨rfl, h⟩)
  have f4 : ∀ o, o ≠ 25 → M4 o = M o := fun o ho => by rw [e4, va_up_ne _ _ ho, e3, va_up_ne _ _ ho]
  have g4 : M4 25 0 = 0 ∧ M4 25 1 = 0 := by
    rw [e4, va_up_self, e3, va_up_self]
    exact ⟨by rw [pk_un (by decide), pk_us], pk_us⟩
  refine ⟨L + 1, key _ ?_ L 0 0 0 0 0 zZ0 zZ0 zZ0 M4 (by omega) (by omega) (by omega) hR ⟨by omega, fun q => by omega, fun q => by omega, fun j hj => by omega⟩ (fun o ho => f4 o (by omega)) ⟨g4.1, fun j hj => by omega, fun j hj => by omega, fun j hj => by omega, fun j hj => by omega⟩ g4.2⟩
  intro N t s p k v K V B ht hr fN cN wN iv
  have nL : N 18 0 = nI L := by rw [fN 18 (by omega)]; exact hL
  have p12 := iv.1
  have bad : R = Sum.inl (1, L) → jnX6_parse_134 18 N Q := fun hr => fail N 1 _ L _ nL hr fN (fun N2 h => ⟨rfl, h⟩)
  rw [cN.1]
  refine ⟨fun q => bad ?_, fun q => ⟨fun q2 => ⟨fun q3 => ?_, fun q3 => ?_⟩, fun q2 => bad ?_⟩⟩
  · rw [hr]; unfold pFin; rw [if_neg (fun z => q (by rw [z.1]; rfl))]
  · have q := (nI_eq (b := 0) (by omega) (by omega)).1 q
    rw [pn_le, pn_n (by omega), show (3 : Int32).toInt = 3 from rfl] at q3
    subst q
    refine hO N p K V B ?_ fN cN wN (by omega) ⟨iv.1, fun q => by omega, fun q => by omega, iv.2.2.2⟩
    rw [hr]; unfold pFin; rw [if_pos ⟨rfl, by omega⟩, if_neg (by omega)]
  · have q := (nI_eq (b := 0) (by omega) (by omega)).1 q
    have q2 : ¬ p = 0 := fun z => q2 (by rw [z]; rfl)
    rw [pn_le, pn_n (by omega), show (3 : Int32).toInt = 3 from rfl] at q3
    refine fail N 4 _ L _ nL ?_ fN (fun N2 h => ⟨fun _ => h, fun z => absurd rfl z⟩)
    rw [hr]; unfold pFin; rw [if_pos ⟨q, q2⟩, if_pos (by omega)]
  · have q2 := (nI_eq (b := 0) (by omega) (by omega)).1 q2
    rw [hr]; unfold pFin; rw [if_neg (fun z => z.2 q2)]
