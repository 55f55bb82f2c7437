/-! PURE: ask() -/
/-- the class's trace is L -/
def askd (M N : zM) (L : List Int32) : Prop := (∀ x, x ≠ 163 → x ≠ 164 → N x = M x) ∧ N 163 0 = nI L.length ∧ ∀ k, k < L.length → N 164 k = L.getD k 0
/-- the reference's trace is L -/
def askr (M N : zM) (L : List Int32) : Prop := (∀ x, x ≠ 200 → x ≠ 214 → N x = M x) ∧ (∀ k, k ≠ 11 → N 200 k = M 200 k) ∧ N 200 11 = nI L.length ∧ ∀ k, k < L.length → N 214 k = L.getD k 0
theorem getD_new (L : List Int32) (b : Int32) (k : Nat) (hk : k < (L ++ [b]).length) : (L ++ [b]).getD k 0 = if k = L.length then b else L.getD k 0 := by
  rw [List.length_append, List.length_singleton] at hk
  by_cases c : k = L.length
  · rw [if_pos c, c]; simp [List.getD]
  · rw [if_neg c]
    have : k < L.length := by omega
    simp [List.getD, List.getElem?_append_left this]
theorem p0_leave {M N : zM} {L : List Int32} {b : Int32} {Q : zM → Prop} (h : askd M N L) (h16 : L.length < 16) (hq : ∀ P : zM, askd M P (L ++ [b]) → Q P) : wX0_leave N 163 b Q := by
  obtain ⟨h1, h2, h3⟩ := h
  unfold wX0_leave
  rw [h2]
  refine ⟨fun c => absurd c (nI_ge (a := L.length) (b := 16) h16 (by decide)), fun _ => ⟨vp_of h16 (by omega), fun M4 e4 M5 e5 => hq M5 ⟨fun x a c => ?_, ?_, fun k hk => ?_⟩⟩⟩
  · rw [e5, va_up_ne _ _ a, e4, va_up_ne _ _ c, h1 x a c]
  · rw [e5, va_up_self, pk_us, e4, va_up_ne _ _ (by decide), h2, nI_1, List.length_append, List.length_singleton]
  · rw [getD_new L b k hk, e5, va_up_ne _ _ (by decide), e4, cl_of (by omega)]
    show va_up N 164 (upd (N 164) L.length b) 164 k = _
    rw [va_up_self]
    by_cases c : k = L.length
    · rw [if_pos c, c, pk_us]
    · rw [if_neg c, pk_un c]
      rw [List.length_append, List.length_singleton] at hk
      exact h3 k (by omega)
theorem p8_begins {M N : zM} {L : List Int32} {b : Int32} {Q : zM → Prop} (h : askr M N L) (h16 : L.length < 16) (hq : ∀ P : zM, askr M P (L ++ [b]) → Q P) : wX8_begins N 200 b Q := by
  obtain ⟨h1, h0, h2, h3⟩ := h
  unfold wX8_begins
  rw [h2]
  refine ⟨fun c => absurd c (nI_ge (a := L.length) (b := 16) h16 (by decide)), fun _ => ⟨vp_of h16 (by omega), fun M4 e4 M5 e5 => hq M5 ⟨fun x a c => ?_, fun k hk => ?_, ?_, fun k hk => ?_⟩⟩⟩
  · rw [e5, va_up_ne _ _ a, e4, va_up_ne _ _ c, h1 x a c]
  · rw [e5, va_up_self, pk_un hk, e4, va_up_ne _ _ (by decide), h0 k hk]
  · rw [e5, va_up_self, pk_us, e4, va_up_ne _ _ (by decide), h2, nI_1, List.length_append, List.length_singleton]
  · rw [getD_new L b k hk, e5, va_up_ne _ _ (by decide), e4, cl_of (by omega)]
    show va_up N 214 (upd (N 214) L.length b) 214 k = _
    rw [va_up_self]
    by_cases c : k = L.length
    · rw [if_pos c, c, pk_us]
    · rw [if_neg c, pk_un c]
      rw [List.length_append, List.length_singleton] at hk
      exact h3 k (by omega)
section PK
variable {M : zM} {n p : Nat}

theorem run_10 {N : zM} {L : List Int32} {dd e : Nat} {Q : Int32 → zM → Prop} (hn : M 20 0 = nI n) (h12 : n ≤ 12) (hp : p < n) (h : askd M N L) (hl : L.length ≤ 8) (he : e < 8) (hq : ∀ P : zM, askd M P (L ++ ([10])) → Q (fNow n (M 22) (M 24) p) P) : wX0_run (dd + 1) N 163 20 (nI p) 10 (nI e) Q := by
  unfold wX0_run
  refine ⟨fun _ => p0_leave h (by omega) (fun P hP => ⟨fun c => absurd c (by decide), fun _ => ?_, fun c => absurd c (by decide), fun c => absurd c (by decide), fun c => absurd c (by decide), fun c => absurd c (by decide), fun c => absurd c (by decide), fun c => absurd c (by decide), fun c => absurd c (by decide), fun c => absurd c (by decide), fun c => absurd c (by decide), fun c => absurd c (by decide), fun c => absurd c (by decide), fun c => absurd c (by decide), fun c => absurd c (by decide), fun c => absurd c (by decide)⟩), fun c => absurd (nI_lt (a := e) (b := 16) (by omega) (by decide)) c⟩
  refine p2_now (o := 20) (by rw [hP.1 20 (by decide) (by decide)]; exact hn) h12 hp ?_
  rw [hP.1 (20 + 2) (by decide) (by decide), hP.1 (20 + 4) (by decide) (by decide)]
  exact hq P hP
theorem run_20 {N : zM} {L : List Int32} {dd e : Nat} {Q : Int32 → zM → Prop} (hn : M 20 0 = nI n) (h12 : n ≤ 12) (hp : p < n) (h : askd M N L) (hl : L.length ≤ 8) (he : e < 8) (hq : ∀ P : zM, askd M P (L ++ ([20])) → Q (nI p) P) : wX0_run (dd + 1) N 163 20 (nI p) 20 (nI e) Q := by
  unfold wX0_run
  refine ⟨fun _ => p0_leave h (by omega) (fun P hP => ⟨fun c => absurd c (by decide), fun c => absurd c (by decide), fun c => absurd c (by decide), fun c => absurd c (by decide), fun c => absurd c (by decide), fun c => absurd c (by decide), fun c => absurd c (by decide), fun c => absurd c (by decide), fun c => absurd c (by decide), fun c => absurd c (by decide), fun c => absurd c (by decide), fun _ => ?_, fun c => absurd c (by decide), fun c => absurd c (by decide), fun c => absurd c (by decide), fun c => absurd c (by decide)⟩), fun c => absurd (nI_lt (a := e) (b := 16) (by omega) (by decide)) c⟩
  exact hq P hP
theorem run_21 {N : zM} {L : List Int32} {dd e : Nat} {Q : Int32 → zM → Prop} (hn : M 20 0 = nI n) (h12 : n ≤ 12) (hp : p < n) (h : askd M N L) (hl : L.length ≤ 7) (he : e < 7) (hq : ∀ P : zM, askd M P (L ++ ([21] ++ [20])) → Q (nI p + M 24 p) P) : wX0_run (dd + 2) N 163 20 (nI p) 21 (nI e) Q := by
  unfold wX0_run
  refine ⟨fun _ => p0_leave h (by omega) (fun P hP => ⟨fun c => absurd c (by decide), fun c => absurd c (by decide), fun c => absurd c (by decide), fun c => absurd c (by decide), fun c => absurd c (by decide), fun c => absurd c (by decide), fun c => absurd c (by decide), fun c => absurd c (by decide), fun c => absurd c (by decide), fun c => absurd c (by decide), fun c => absurd c (by decide), fun c => absurd c (by decide), fun _ => ?_, fun c => absurd c (by decide), fun c => absurd c (by decide), fun c => absurd c (by decide)⟩), fun c => absurd (nI_lt (a := e) (b := 16) (by omega) (by decide)) c⟩
  rw [nI_1]
  refine run_20 (dd := dd) hn h12 hp hP (by rw [List.length_append, List.length_singleton]; omega) (by omega) (fun P2 hP2 => ⟨vp_of (by omega) (by omega), ?_⟩)
  rw [cl_of (by omega), hP2.1 (20 + 4) (by decide) (by decide)]
  exact hq P2 (by rw [← List.append_assoc]; exact hP2)
theorem run_22 {N : zM} {L : List Int32} {dd e : Nat} {Q : Int32 → zM → Prop} (hn : M 20 0 = nI n) (h12 : n ≤ 12) (hp : p < n) (h : askd M N L) (hl : L.length ≤ 6) (he : e < 6) (hq : ∀ P : zM, askd M P (L ++ ([22] ++ ([21] ++ [20]))) → Q (nI p + M 24 p - 1000) P) : wX0_run (dd + 3) N 163 20 (nI p) 22 (nI e) Q := by
  unfold wX0_run
  refine ⟨fun _ => p0_leave h (by omega) (fun P hP => ⟨fun c => absurd c (by decide), fun c => absurd c (by decide), fun c => absurd c (by decide), fun c => absurd c (by decide), fun c => absurd c (by decide), fun c => absurd c (by decide), fun c => absurd c (by decide), fun c => absurd c (by decide), fun c => absurd c (by decide), fun c => absurd c (by decide), fun c => absurd c (by decide), fun c => absurd c (by decide), fun c => absurd c (by decide), fun _ => ?_, fun c => absurd c (by decide), fun c => absurd c (by decide)⟩), fun c => absurd (nI_lt (a := e) (b := 16) (by omega) (by decide)) c⟩
  rw [nI_1]
  refine run_21 (dd := dd) hn h12 hp hP (by rw [List.length_append, List.length_singleton]; omega) (by omega) (fun P2 hP2 => ?_)
  exact hq P2 (by rw [← List.append_assoc]; exact hP2)
theorem run_24 {N : zM} {L : List Int32} {dd e : Nat} {Q : Int32 → zM → Prop} (hn : M 20 0 = nI n) (h12 : n ≤ 12) (hp : p < n) (h : askd M N L) (hl : L.length ≤ 6) (he : e < 6) (hq : ∀ P : zM, askd M P (L ++ ([24] ++ ([21] ++ [20]))) → Q (2 * (nI p + M 24 p)) P) : wX0_run (dd + 3) N 163 20 (nI p) 24 (nI e) Q := by
  unfold wX0_run
  refine ⟨fun _ => p0_leave h (by omega) (fun P hP => ⟨fun c => absurd c (by decide), fun c => absurd c (by decide), fun c => absurd c (by decide), fun c => absurd c (by decide), fun c => absurd c (by decide), fun c => absurd c (by decide), fun c => absurd c (by decide), fun c => absurd c (by decide), fun c => absurd c (by decide), fun c => absurd c (by decide), fun c => absurd c (by decide), fun c => absurd c (by decide), fun c => absurd c (by decide), fun c => absurd c (by decide), fun c => absurd c (by decide), fun _ => ?_⟩), fun c => absurd (nI_lt (a := e) (b := 16) (by omega) (by decide)) c⟩
  rw [nI_1]
  refine run_21 (dd := dd) hn h12 hp hP (by rw [List.length_append, List.length_singleton]; omega) (by omega) (fun P2 hP2 => ?_)
  exact hq P2 (by rw [← List.append_assoc]; exact hP2)
theorem run_13 {N : zM} {L : List Int32} {dd e : Nat} {Q : Int32 → zM → Prop} (hn : M 20 0 = nI n) (h12 : n ≤ 12) (hp : p < n) (h : askd M N L) (hl : L.length ≤ 7) (he : e < 7) (hq : ∀ P : zM, askd M P (L ++ ([13] ++ [10])) → Q (fNow n (M 22) (M 24) p - 100) P) : wX0_run (dd + 2) N 163 20 (nI p) 13 (nI e) Q := by
  unfold wX0_run
  refine ⟨fun _ => p0_leave h (by omega) (fun P hP => ⟨fun c => absurd c (by decide), fun c => absurd c (by decide), fun c => absurd c (by decide), fun c => absurd c (by decide), fun _ => ?_, fun c => absurd c (by decide), fun c => absurd c (by decide), fun c => absurd c (by decide), fun c => absurd c (by decide), fun c => absurd c (by decide), fun c => absurd c (by decide), fun c => absurd c (by decide), fun c => absurd c (by decide), fun c => absurd c (by decide), fun c => absurd c (by decide), fun c => absurd c (by decide)⟩), fun c => absurd (nI_lt (a := e) (b := 16) (by omega) (by decide)) c⟩
  rw [nI_1]
  refine run_10 (dd := dd) hn h12 hp hP (by rw [List.length_append, List.length_singleton]; omega) (by omega) (fun P2 hP2 => ?_)
  exact hq P2 (by rw [← List.append_assoc]; exact hP2)
theorem run_14 {N : zM} {L : List Int32} {dd e : Nat} {Q : Int32 → zM → Prop} (hn : M 20 0 = nI n) (h12 : n ≤ 12) (hp : p < n) (h : askd M N L) (hl : L.length ≤ 6) (he : e < 6) (hq : ∀ P : zM, askd M P (L ++ ([14] ++ ([13] ++ [10]))) → Q (2 * (fNow n (M 22) (M 24) p - 100)) P) : wX0_run (dd + 3) N 163 20 (nI p) 14 (nI e) Q := by
  unfold wX0_run
  refine ⟨fun _ => p0_leave h (by omega) (fun P hP => ⟨fun c => absurd c (by decide), fun c => absurd c (by decide), fun c => absurd c (by decide), fun c => absurd c (by decide), fun c => absurd c (by decide), fun _ => ?_, fun c => absurd c (by decide), fun c => absurd c (by decide), fun c => absurd c (by decide), fun c => absurd c (by decide), fun c => absurd c (by decide), fun c => absurd c (by decide), fun c => absurd c (by decide), fun c => absurd c (by decide), fun c => absurd c (by decide), fun c => absurd c (by decide)⟩), fun c => absurd (nI_lt (a := e) (b := 16) (by omega) (by decide)) c⟩
  rw [nI_1]
  refine run_13 (dd := dd) hn h12 hp hP (by rw [List.length_append, List.length_singleton]; omega) (by omega) (fun P2 hP2 => ?_)
  exact hq P2 (by rw [← List.append_assoc]; exact hP2)
theorem ans_go {N : zM} {x3 b : Int32} {c u fu : Nat} {Q : Int32 → zM → Prop} {K : Int32 → Int32 → Int32 → Prop} (hc : c < 6) (hu : u < 6) (hb : b = if x3 = 0 then zsizes c else zmarks c) (h0 : ¬ b = 0) (h : K (nI c) (nI u) b) : lpX0_answer_11 N x3 Q K (fu + 1) (nI c) (nI u) := by
  unfold lpX0_answer_11
  refine ⟨fun q => absurd q (nI_ge (a := u) (b := 6) (by omega) (by omega)), fun _ => ⟨fun q => absurd q (nI_pos (by omega)), fun _ => ⟨fun q => ⟨vp_of hc (by omega), ?_⟩, fun q => ⟨vp_of hc (by omega), ?_⟩⟩⟩⟩
  · rw [cl_of (by omega)]; rw [if_neg q] at hb; rw [← hb]; exact ⟨fun w => absurd w h0, fun _ => h⟩
  · rw [cl_of (by omega)]; rw [if_pos q] at hb; rw [← hb]; exact ⟨fun w => absurd w h0, fun _ => h⟩
theorem ans_on {N : zM} {x3 : Int32} {c u fu : Nat} {Q : Int32 → zM → Prop} {K : Int32 → Int32 → Int32 → Prop} (hc : c < 6) (hu : u < 6) (hb : (if x3 = 0 then zsizes c else zmarks c) = 0) (h : lpX0_answer_11 N x3 Q K fu (zalso c) (nI (u + 1))) : lpX0_answer_11 N x3 Q K (fu + 1) (nI c) (nI u) := by
  unfold lpX0_answer_11
  refine ⟨fun q => absurd q (nI_ge (a := u) (b := 6) (by omega) (by omega)), fun _ => ⟨fun q => absurd q (nI_pos (by omega)), fun _ => ⟨fun q => ⟨vp_of hc (by omega), ?_⟩, fun q => ⟨vp_of hc (by omega), ?_⟩⟩⟩⟩
  · rw [if_neg q] at hb
    rw [cl_of (by omega), hb]
    exact ⟨fun _ => ⟨vp_of hc (by omega), fun x15 e15 => by rw [e15, nI_1, cl_of (by omega)]; exact h⟩, fun w => absurd rfl w⟩
  · rw [if_pos q] at hb
    rw [cl_of (by omega), hb]
    exact ⟨fun _ => ⟨vp_of hc (by omega), fun x15 e15 => by rw [e15, nI_1, cl_of (by omega)]; exact h⟩, fun w => absurd rfl w⟩
def aMv (c : Nat) (q s : Int32) : Int32 := if c = 1 then q + s else if c = 2 then 2 * (q + s) else q + s - 1000
def aMl (c : Nat) : List Int32 := if c = 1 then [21] ++ [20] else if c = 2 then [24] ++ ([21] ++ [20]) else [22] ++ ([21] ++ [20])
def aBv (c : Nat) (v : Int32) : Int32 := if c = 4 then v - 100 else 2 * (v - 100)
def aBl (c : Nat) : List Int32 := if c = 4 then [13] ++ [10] else [14] ++ ([13] ++ [10])
theorem ans_mark {N : zM} {L : List Int32} {dd e c : Nat} {Q : Int32 → zM → Prop} (hn : M 20 0 = nI n) (h12 : n ≤ 12) (hp : p < n) (hc : M 21 p = nI c) (hc1 : 1 ≤ c) (hc3 : c ≤ 3) (h : askd M N L) (hl : L.length ≤ 6) (he : e < 6) (hq : ∀ P : zM, askd M P (L ++ aMl c) → Q (aMv c (nI p) (M 24 p)) P) : wX0_answer (wX0_run (dd + 3)) N 163 20 (nI p) 1 (nI e) Q := by
  unfold wX0_answer
  refine ⟨vp_of (by omega) (by omega), 1, ?_⟩
  rw [cl_of (by omega), show N (20 + 1) p = nI c by rw [h.1 (20 + 1) (by decide) (by decide)]; exact hc]
  match c, hc1, hc3 with
  | 1, _, _ => exact ans_go (u := 0) (b := 21) (by omega) (by omega) rfl (by decide) (run_21 (dd := dd + 1) hn h12 hp h (by omega) (by omega) hq)
  | 2, _, _ => exact ans_go (u := 0) (b := 24) (by omega) (by omega) rfl (by decide) (run_24 (dd := dd) hn h12 hp h (by omega) (by omega) hq)
  | 3, _, _ => exact ans_go (u := 0) (b := 22) (by omega) (by omega) rfl (by decide) (run_22 (dd := dd) hn h12 hp h (by omega) (by omega) hq)
theorem ans_size {N : zM} {L : List Int32} {dd e c : Nat} {Q : Int32 → zM → Prop} (hn : M 20 0 = nI n) (h12 : n ≤ 12) (hp : p < n) (hc : M 21 p = nI c) (hc1 : 4 ≤ c) (hc3 : c ≤ 5) (h : askd M N L) (hl : L.length ≤ 6) (he : e < 6) (hq : ∀ P : zM, askd M P (L ++ aBl c) → Q (aBv c (fNow n (M 22) (M 24) p)) P) : wX0_answer (wX0_run (dd + 3)) N 163 20 (nI p) 0 (nI e) Q := by
  unfold wX0_answer
  refine ⟨vp_of (by omega) (by omega), 1, ?_⟩
  rw [cl_of (by omega), show N (20 + 1) p = nI c by rw [h.1 (20 + 1) (by decide) (by decide)]; exact hc]
  match c, hc1, hc3 with
  | 4, _, _ => exact ans_go (u := 0) (b := 13) (by omega) (by omega) rfl (by decide) (run_13 (dd := dd + 1) hn h12 hp h (by omega) (by omega) hq)
  | 5, _, _ => exact ans_go (u := 0) (b := 14) (by omega) (by omega) rfl (by decide) (run_14 (dd := dd) hn h12 hp h (by omega) (by omega) hq)

theorem run_11 {N : zM} {L : List Int32} {dd e : Nat} {Q : Int32 → zM → Prop} (hn : M 20 0 = nI n) (h12 : n ≤ 12) (hp : p < n) {c : Nat} (hc : M 21 p = nI c) (hc1 : 1 ≤ c) (hc3 : c ≤ 3) (h : askd M N L) (hl : L.length ≤ 4) (he : e < 4) (hq : ∀ P : zM, askd M P (L ++ (([11] ++ [10] ++ aMl c))) → Q (fNow n (M 22) (M 24) p + aMv c (nI p) (M 24 p)) P) : wX0_run (dd + 4) N 163 20 (nI p) 11 (nI e) Q := by
  unfold wX0_run
  refine ⟨fun _ => p0_leave h (by omega) (fun P hP => ⟨fun c => absurd c (by decide), fun c => absurd c (by decide), fun _ => ?_, fun c => absurd c (by decide), fun c => absurd c (by decide), fun c => absurd c (by decide), fun c => absurd c (by decide), fun c => absurd c (by decide), fun c => absurd c (by decide), fun c => absurd c (by decide), fun c => absurd c (by decide), fun c => absurd c (by decide), fun c => absurd c (by decide), fun c => absurd c (by decide), fun c => absurd c (by decide), fun c => absurd c (by decide)⟩), fun c => absurd (nI_lt (a := e) (b := 16) (by omega) (by decide)) c⟩
  rw [nI_1]
  refine run_10 (dd := dd + 2) hn h12 hp hP (by rw [List.length_append, List.length_singleton]; omega) (by omega) (fun P2 hP2 => ?_)
  refine ans_mark (dd := dd) hn h12 hp hc hc1 hc3 hP2 (by rw [List.length_append, List.length_append, List.length_singleton, List.length_singleton]; omega) (by omega) (fun P3 hP3 => ?_)
  exact hq P3 (by rw [← List.append_assoc, ← List.append_assoc]; exact hP3)
theorem run_12 {N : zM} {L : List Int32} {dd e : Nat} {Q : Int32 → zM → Prop} (hn : M 20 0 = nI n) (h12 : n ≤ 12) (hp : p < n) {c : Nat} (hc : M 21 p = nI c) (hc1 : 1 ≤ c) (hc3 : c ≤ 3) (h : askd M N L) (hl : L.length ≤ 3) (he : e < 3) (hq : ∀ P : zM, askd M P (L ++ (([12] ++ ([11] ++ [10] ++ aMl c)))) → Q (-(fNow n (M 22) (M 24) p + aMv c (nI p) (M 24 p))) P) : wX0_run (dd + 5) N 163 20 (nI p) 12 (nI e) Q := by
  unfold wX0_run
  refine ⟨fun _ => p0_leave h (by omega) (fun P hP => ⟨fun c => absurd c (by decide), fun c => absurd c (by decide), fun c => absurd c (by decide), fun _ => ?_, fun c => absurd c (by decide), fun c => absurd c (by decide), fun c => absurd c (by decide), fun c => absurd c (by decide), fun c => absurd c (by decide), fun c => absurd c (by decide), fun c => absurd c (by decide), fun c => absurd c (by decide), fun c => absurd c (by decide), fun c => absurd c (by decide), fun c => absurd c (by decide), fun c => absurd c (by decide)⟩), fun c => absurd (nI_lt (a := e) (b := 16) (by omega) (by decide)) c⟩
  rw [nI_1]
  refine run_11 (dd := dd) hn h12 hp hc hc1 hc3 hP (by rw [List.length_append, List.length_singleton]; omega) (by omega) (fun P2 hP2 => ?_)
  exact hq P2 (by rw [← List.append_assoc]; exact hP2)
theorem run_23 {N : zM} {L : List Int32} {dd e : Nat} {Q : Int32 → zM → Prop} (hn : M 20 0 = nI n) (h12 : n ≤ 12) (hp : p < n) {c : Nat} (hc : M 21 p = nI c) (hc1 : 4 ≤ c) (hc3 : c ≤ 5) (h : askd M N L) (hl : L.length ≤ 4) (he : e < 4) (hq : ∀ P : zM, askd M P (L ++ (([23] ++ [20] ++ aBl c))) → Q (nI p - aBv c (fNow n (M 22) (M 24) p)) P) : wX0_run (dd + 4) N 163 20 (nI p) 23 (nI e) Q := by
  unfold wX0_run
  refine ⟨fun _ => p0_leave h (by omega) (fun P hP => ⟨fun c => absurd c (by decide), fun c => absurd c (by decide), fun c => absurd c (by decide), fun c => absurd c (by decide), fun c => absurd c (by decide), fun c => absurd c (by decide), fun c => absurd c (by decide), fun c => absurd c (by decide), fun c => absurd c (by decide), fun c => absurd c (by decide), fun c => absurd c (by decide), fun c => absurd c (by decide), fun c => absurd c (by decide), fun c => absurd c (by decide), fun _ => ?_, fun c => absurd c (by decide)⟩), fun c => absurd (nI_lt (a := e) (b := 16) (by omega) (by decide)) c⟩
  rw [nI_1]
  refine run_20 (dd := dd + 2) hn h12 hp hP (by rw [List.length_append, List.length_singleton]; omega) (by omega) (fun P2 hP2 => ?_)
  refine ans_size (dd := dd) hn h12 hp hc hc1 hc3 hP2 (by rw [List.length_append, List.length_append, List.length_singleton, List.length_singleton]; omega) (by omega) (fun P3 hP3 => ?_)
  exact hq P3 (by rw [← List.append_assoc, ← List.append_assoc]; exact hP3)
def aV (w c : Nat) (q s v : Int32) : Int32 := if w = 0 then (if 4 ≤ c then aBv c v else if c = 2 then -(v + aMv c q s) else v + aMv c q s) else (if 4 ≤ c then q - aBv c v else aMv c q s)
def aL (w c : Nat) : List Int32 := if w = 0 then (if 4 ≤ c then aBl c else if c = 2 then [12] ++ ([11] ++ [10] ++ aMl c) else [11] ++ [10] ++ aMl c) else (if 4 ≤ c then [23] ++ [20] ++ aBl c else aMl c)
theorem p0_begin {w c : Nat} {Q : Int32 → zM → Prop} (hn : M 20 0 = nI n) (h12 : n ≤ 12) (hp : p < n) (hc : M 21 p = nI c) (hc1 : 1 ≤ c) (hc5 : c ≤ 5) (hw : w ≤ 1) (hq : ∀ P : zM, askd M P (aL w c) → Q (aV w c (nI p) (M 24 p) (fNow n (M 22) (M 24) p)) P) : wX0_begin M 163 20 (nI p) (nI w) Q := by
  intro N eN
  have h : askd M N [] := ⟨fun x h1 _ => by rw [eN, va_up_ne _ _ h1], by rw [eN, va_up_self, pk_us]; rfl, fun k hk => absurd hk (by simp)⟩
  have nk : N (20 + 1) p = nI c := by rw [h.1 (20 + 1) (by decide) (by decide)]; exact hc
  match w, hw with
  | 1, _ =>
    by_cases c4 : 4 ≤ c
    · unfold wX0_answer
      refine ⟨vp_of (by omega) (by omega), 2, ?_⟩
      rw [cl_of (by omega), nk]
      have q0 : aV 1 c (nI p) (M 24 p) (fNow n (M 22) (M 24) p) = nI p - aBv c (fNow n (M 22) (M 24) p) := by unfold aV; rw [if_neg (by decide), if_pos c4]
      have q1 : aL 1 c = [23] ++ [20] ++ aBl c := by unfold aL; rw [if_neg (by decide), if_pos c4]
      rw [q0, q1] at hq
      have r := fun (Q : Int32 → zM → Prop) => run_23 (N := N) (L := []) (dd := 8) (e := 0) (Q := Q) hn h12 hp hc c4 hc5 h (by decide) (by omega)
      match c, hc1, hc5, c4 with
      | 4, _, _, _ => exact ans_go (u := 0) (b := 23) (by omega) (by omega) rfl (by decide) (r _ hq)
      | 5, _, _, _ => exact ans_on (u := 0) (by omega) (by omega) rfl (ans_go (c := 4) (u := 1) (b := 23) (by omega) (by omega) rfl (by decide) (r _ hq))
    · have q0 : aV 1 c (nI p) (M 24 p) (fNow n (M 22) (M 24) p) = aMv c (nI p) (M 24 p) := by unfold aV; rw [if_neg (by decide), if_neg c4]
      have q1 : aL 1 c = aMl c := by unfold aL; rw [if_neg (by decide), if_neg c4]
      rw [q0, q1] at hq
      exact ans_mark (dd := 9) (e := 0) hn h12 hp hc hc1 (by omega) h (by decide) (by omega) hq
  | 0, _ =>
    by_cases c4 : 4 ≤ c
    · have q0 : aV 0 c (nI p) (M 24 p) (fNow n (M 22) (M 24) p) = aBv c (fNow n (M 22) (M 24) p) := by unfold aV; rw [if_pos rfl, if_pos c4]
      have q1 : aL 0 c = aBl c := by unfold aL; rw [if_pos rfl, if_pos c4]
      rw [q0, q1] at hq
      exact ans_size (dd := 9) (e := 0) hn h12 hp hc c4 hc5 h (by decide) (by omega) hq
    · unfold wX0_answer
      refine ⟨vp_of (by omega) (by omega), 2, ?_⟩
      rw [cl_of (by omega), nk]
      have r := fun (Q : Int32 → zM → Prop) => run_11 (N := N) (L := []) (dd := 8) (e := 0) (Q := Q) hn h12 hp hc hc1 (by omega) h (by decide) (by omega)
      have r2 := fun (Q : Int32 → zM → Prop) => run_12 (N := N) (L := []) (dd := 7) (e := 0) (Q := Q) hn h12 hp hc hc1 (by omega) h (by decide) (by omega)
      have hc3 : c ≤ 3 := by omega
      clear c4
      match c, hc1, hc3 with
      | 1, _, _ => exact ans_go (u := 0) (b := 11) (by omega) (by omega) rfl (by decide) (r _ hq)
      | 2, _, _ => exact ans_go (u := 0) (b := 12) (by omega) (by omega) rfl (by decide) (r2 _ hq)
      | 3, _, _ => exact ans_on (u := 0) (by omega) (by omega) rfl (ans_go (c := 1) (u := 1) (b := 11) (by omega) (by omega) rfl (by decide) (r _ hq))
theorem p8_kindIn {N : zM} {w : Nat → Int32} {c : Nat} {Q : Int32 → Prop} (hp : p < 12) (hw : N 206 = w) (hc : rK w p = nI c) (h : Q (nI c)) : wX8_kindIn N 200 (nI p) Q := by
  unfold wX8_kindIn
  rw [nI_4]
  refine ⟨vp_of (by omega) (by omega), fun x ex => ?_⟩
  have : x = nI c := by rw [ex, cl_of (by omega), show N (200 + 6) = w from hw]; exact hc
  rw [this]; exact h
theorem nI_c {c : Nat} (hc : c ≤ 5) (b : Nat) (hb : b < 100) : nI c = nI b ↔ c = b := nI_eq (by omega) (by omega)
theorem p8_plainMark {N : zM} {L : List Int32} {c : Nat} {Q : Int32 → zM → Prop} (hp : p < 12) (hc : rK (M 206) p = nI c) (hc1 : 1 ≤ c) (hc3 : c ≤ 3) (h : askr M N L) (hl : L.length ≤ 6) (hq : ∀ P : zM, askr M P (L ++ aMl c) → Q (aMv c (nI p) (rS (M 206) p)) P) : wX8_plainMark N 200 (nI p) Q := by
  have jn : ∀ (N : zM) (L : List Int32) (pre : List Int32), askr M N L → L.length ≤ 7 → (∀ P : zM, askr M P (L ++ ([21] ++ [20])) → Q (aMv c (nI p) (rS (M 206) p)) P) → jnX8_plainMark_27 200 (nI p) (nI c) Q N := by
    intro N L _ h hl hq
    unfold jnX8_plainMark_27
    refine p8_begins h (by omega) (fun P hP => p8_begins hP (by rw [List.length_append, List.length_singleton]; omega) (fun P2 hP2 => ?_))
    rw [List.append_assoc] at hP2
    have hq := hq P2 hP2
    intro x10 e10
    rw [show (((2 : Int32) + 4 * nI p) + 3) = nI (2 + 4 * p + 3) from nI_4c p 3] at e10
    rw [e10, cl_of (by omega), show 2 + 4 * p + 3 = 5 + 4 * p by omega, show P2 (200 + 6) = M 206 from hP2.1 206 (by decide) (by decide)]
    refine ⟨vp_of (by omega) (by omega), ?_⟩
    unfold aMv at hq
    match c, hc1, hc3 with
    | 1, _, _ => exact ⟨fun _ => ⟨fun _ => hq, fun q => absurd q (by decide)⟩, fun q => absurd q (by decide)⟩
    | 2, _, _ => exact ⟨fun q => absurd rfl q, fun _ x ex => by rw [ex]; exact hq⟩
    | 3, _, _ => exact ⟨fun _ => ⟨fun q => absurd rfl q, fun _ x ex => by rw [ex]; exact hq⟩, fun q => absurd q (by decide)⟩
  unfold wX8_plainMark
  refine p8_kindIn (w := M 206) hp (h.1 206 (by decide) (by decide)) hc ?_
  have ln : ∀ b : Int32, (L ++ [b]).length ≤ 7 := fun b => by rw [List.length_append, List.length_singleton]; omega
  refine ⟨fun q => ?_, fun q => ⟨fun q2 => p8_begins h (by omega) (fun P hP => ?_), fun q2 => p8_begins h (by omega) (fun P hP => ?_)⟩⟩
  · have : c = 1 := (nI_c (by omega) 1 (by omega)).1 q
    subst this
    exact jn N L [] h (by omega) hq
  · have : c = 3 := by
      have : ¬ c = 1 := fun w => q ((nI_c (c := c) (by omega) 1 (by omega)).2 w)
      have : ¬ c = 2 := fun w => q2 ((nI_c (c := c) (by omega) 2 (by omega)).2 w)
      omega
    subst this
    exact jn P _ [] hP (ln _) (fun P2 hP2 => hq P2 (by rw [List.append_assoc] at hP2; exact hP2))
  · have : c = 2 := (nI_c (by omega) 2 (by omega)).1 q2
    subst this
    exact jn P _ [] hP (ln _) (fun P2 hP2 => hq P2 (by rw [List.append_assoc] at hP2; exact hP2))
theorem p8_bridgeSize {N : zM} {L : List Int32} {c : Nat} {Q : Int32 → zM → Prop} (hn : M 206 0 = nI n) (h12 : n ≤ 12) (hp : p < n) (hc : rK (M 206) p = nI c) (hc1 : 4 ≤ c) (hc3 : c ≤ 5) (h : askr M N L) (hl : L.length ≤ 6) (hq : ∀ P : zM, askr M P (L ++ aBl c) → Q (aBv c (fNow n (rV (M 206)) (rS (M 206)) p)) P) : wX8_bridgeSize N 200 (nI p) Q := by
  have jn : ∀ (N : zM) (L : List Int32) (x5 : Int32), askr M N L → L.length ≤ 7 → (x5 = 0 ↔ c = 4) → (∀ P : zM, askr M P (L ++ ([13] ++ [10])) → Q (aBv c (fNow n (rV (M 206)) (rS (M 206)) p)) P) → jnX8_bridgeSize_25 200 (nI p) x5 Q N := by
    intro N L x5 h hl hx hq
    unfold jnX8_bridgeSize_25
    refine p8_begins h (by omega) (fun P hP => p8_begins hP (by rw [List.length_append, List.length_singleton]; omega) (fun P2 hP2 => ?_))
    have m6 : P2 206 = M 206 := hP2.1 206 (by decide) (by decide)
    rw [List.append_assoc] at hP2
    have hq := hq P2 hP2
    refine p8_nowOf (o := 206) (by omega) (by omega) (by rw [m6]; exact hn) h12 hp ?_
    rw [m6]
    unfold aBv at hq
    refine ⟨fun q => ?_, fun q => ?_⟩
    · rw [if_pos (hx.1 q)] at hq; exact hq
    · rw [if_neg (fun w => q (hx.2 w))] at hq; exact hq
  unfold wX8_bridgeSize
  refine p8_kindIn (w := M 206) (by omega) (h.1 206 (by decide) (by decide)) hc ⟨fun q => ⟨fun _ => ?_, fun w => absurd rfl w⟩, fun q => ⟨fun w => absurd w (by decide), fun _ => p8_begins h (by omega) (fun P hP => ?_)⟩⟩
  · have : c = 4 := by
      have : ¬ c = 5 := fun w => q ((nI_c (c := c) (by omega) 5 (by omega)).2 w)
      omega
    subst this
    exact jn N L 0 h (by omega) ⟨fun _ => rfl, fun _ => rfl⟩ hq
  · have : c = 5 := (nI_c (by omega) 5 (by omega)).1 q
    subst this
    exact jn P _ 1 hP (by rw [List.length_append, List.length_singleton]; omega) ⟨fun w => absurd w (by decide), fun w => absurd w (by decide)⟩ (fun P2 hP2 => hq P2 (by rw [List.append_assoc] at hP2; exact hP2))
theorem p8_plainSize {N : zM} {L : List Int32} {c : Nat} {Q : Int32 → zM → Prop} (hn : M 206 0 = nI n) (h12 : n ≤ 12) (hp : p < n) (hc : rK (M 206) p = nI c) (hc1 : 1 ≤ c) (hc3 : c ≤ 3) (h : askr M N L) (hl : L.length ≤ 3) (hq : ∀ P : zM, askr M P (L ++ (if c = 2 then [12] ++ ([11] ++ [10] ++ aMl c) else [11] ++ [10] ++ aMl c)) → Q (if c = 2 then -(fNow n (rV (M 206)) (rS (M 206)) p + aMv c (nI p) (rS (M 206) p)) else fNow n (rV (M 206)) (rS (M 206)) p + aMv c (nI p) (rS (M 206) p)) P) : wX8_plainSize N 200 (nI p) Q := by
  have jn : ∀ (N : zM) (L : List Int32) (x5 : Int32), askr M N L → L.length ≤ 4 → (¬ x5 = 0 ↔ c = 2) → (∀ P : zM, askr M P (L ++ ([11] ++ [10] ++ aMl c)) → Q (if c = 2 then -(fNow n (rV (M 206)) (rS (M 206)) p + aMv c (nI p) (rS (M 206) p)) else fNow n (rV (M 206)) (rS (M 206)) p + aMv c (nI p) (rS (M 206) p)) P) → jnX8_plainSize_25 200 (nI p) x5 Q N := by
    intro N L x5 h hl hx hq
    unfold jnX8_plainSize_25
    refine p8_begins h (by omega) (fun P hP => p8_begins hP (by rw [List.length_append, List.length_singleton]; omega) (fun P2 hP2 => ?_))
    have m6 : P2 206 = M 206 := hP2.1 206 (by decide) (by decide)
    refine p8_nowOf (o := 206) (by omega) (by omega) (by rw [m6]; exact hn) h12 hp (p8_plainMark (by omega) hc hc1 hc3 hP2 (by rw [List.length_append, List.length_append, List.length_singleton, List.length_singleton]; omega) (fun P3 hP3 => ?_))
    rw [List.append_assoc, List.append_assoc, ← List.append_assoc [11]] at hP3
    have hq := hq P3 hP3
    rw [m6]
    refine ⟨fun q => ?_, fun q => ?_⟩
    · rw [if_neg (fun w => hx.2 w q)] at hq; exact hq
    · rw [if_pos (hx.1 q)] at hq; exact hq
  unfold wX8_plainSize
  refine p8_kindIn (w := M 206) (by omega) (h.1 206 (by decide) (by decide)) hc ⟨fun q => ⟨fun _ => ?_, fun w => absurd rfl w⟩, fun q => ⟨fun w => absurd w (by decide), fun _ => p8_begins h (by omega) (fun P hP => ?_)⟩⟩
  · have c2 : ¬ c = 2 := fun w => q ((nI_c (c := c) (by omega) 2 (by omega)).2 w)
    refine jn N L 0 h (by omega) ⟨fun w => absurd rfl w, fun w => absurd w c2⟩ (fun P hP => hq P ?_)
    rw [if_neg c2]; exact hP
  · have : c = 2 := (nI_c (by omega) 2 (by omega)).1 q
    subst this
    exact jn P _ 1 hP (by rw [List.length_append, List.length_singleton]; omega) ⟨fun _ => rfl, fun _ => by decide⟩ (fun P2 hP2 => hq P2 (by rw [List.append_assoc] at hP2; exact hP2))
theorem p8_ask {w c : Nat} {Q : Int32 → zM → Prop} (hn : M 206 0 = nI n) (h12 : n ≤ 12) (hp : p < n) (hc : rK (M 206) p = nI c) (hc1 : 1 ≤ c) (hc5 : c ≤ 5) (hw : w ≤ 1) (hz : ¬ zin (nI p) 0 (nI n - 1) = 0) (hz2 : ¬ zin (nI w) 0 1 = 0) (hq : ∀ P : zM, askr M P (aL w c) → Q (aV w c (nI p) (rS (M 206) p) (fNow n (rV (M 206)) (rS (M 206)) p)) P) : wX8_ask M 200 (nI p) (nI w) Q := by
  unfold wX8_ask
  refine p8_isPeg ?_
  rw [hn]
  refine ⟨fun q => absurd q hz, fun _ => p8_in ⟨fun _ N eN => ?_, fun q => absurd q hz2⟩⟩
  have h : askr M N [] := ⟨fun x h1 _ => by rw [eN, va_up_ne _ _ h1], fun k hk => by rw [eN, va_up_self, pk_un hk], by rw [eN, va_up_self, pk_us]; rfl, fun k hk => absurd hk (by simp)⟩
  refine p8_kindIn (w := M 206) (by omega) (h.1 206 (by decide) (by decide)) hc ?_
  have j4 : nI c < 4 ↔ c < 4 := nI_ltI (b := 4) (by omega) (by omega)
  show (nI c < 4 → _) ∧ (¬ nI c < 4 → _)
  rw [j4]
  unfold aV aL at hq
  refine ⟨fun c4 => ?_, fun c4 => ?_⟩
  · rw [if_neg (show ¬ 4 ≤ c by omega), if_neg (show ¬ 4 ≤ c by omega), if_neg (show ¬ 4 ≤ c by omega), if_neg (show ¬ 4 ≤ c by omega)] at hq
    unfold jnX8_ask_39
    match w, hw with
    | 0, _ =>
      refine ⟨fun q => absurd rfl q, fun _ => ⟨fun _ => p8_plainSize hn h12 hp hc hc1 (by omega) h (by decide) hq, fun q => absurd rfl q⟩⟩
    | 1, _ =>
      refine ⟨fun _ => ⟨fun _ => p8_plainMark (by omega) hc hc1 (by omega) h (by decide) hq, fun q => absurd rfl q⟩, fun q => absurd q (by decide)⟩
  · rw [if_pos (show 4 ≤ c by omega), if_pos (show 4 ≤ c by omega), if_pos (show 4 ≤ c by omega), if_pos (show 4 ≤ c by omega)] at hq
    unfold jnX8_ask_39
    match w, hw with
    | 0, _ =>
      refine ⟨fun q => absurd rfl q, fun _ => ⟨fun q => absurd q (by decide), fun _ => p8_bridgeSize hn h12 hp hc (by omega) hc5 h (by decide) hq⟩⟩
    | 1, _ =>
      refine ⟨fun _ => ⟨fun q => absurd q (by decide), fun _ => ?_⟩, fun q => absurd q (by decide)⟩
      unfold wX8_bridgeMark
      refine p8_begins h (by decide) (fun P hP => p8_begins hP (by decide) (fun P2 hP2 => p8_bridgeSize hn h12 hp hc (by omega) hc5 hP2 (by decide) (fun P3 hP3 => hq P3 hP3)))
end PK
section PK
variable {S : zM → Prop}
theorem s_ask (hS : sOwn S) : st_ask (fun M _ => cAll S M) := by
  intro M J a b hI
  obtain ⟨n, e7, e8, h12, hrn, hn0⟩ := rail_n hI.2.2.2.1
  obtain ⟨rk, rv, rb, rs⟩ := rel_fun hI.2.2.2.1.1 hrn
  unfold wX7_ask
  refine p7_isPeg ?_
  rw [e7]
  refine ⟨fun h => ?_, fun h => p7_within ⟨fun h2 => ?_, fun h2 => ?_⟩⟩
  · unfold wX8_ask
    refine p8_isPeg ?_
    rw [e8]
    exact ⟨fun _ => ⟨rfl, hI⟩, fun q => absurd h q⟩
  · obtain ⟨k, hk, rfl⟩ := zin_nat (by omega) h
    obtain ⟨t, ht, rfl⟩ := zin_lit (n := 1) rfl h2
    obtain ⟨h3, -, hok⟩ := rail_pos hI.2.2.2.1 e7 h12 (by omega)
    obtain ⟨k1, k2⟩ := (hok k hk).1
    obtain ⟨c, hc⟩ : ∃ c : Nat, c = (M 21 k).toInt.toNat := ⟨_, rfl⟩
    have ec : M 21 k = nI c := by rw [hc]; exact pn_of (by omega)
    refine p0_begin e7 h12 hk ec (by omega) (by omega) ht (fun A hA => ?_)
    have m6 : A 206 = M 206 := hA.1 206 (by decide) (by decide)
    refine p8_ask (n := n) (c := c) (by rw [m6]; exact e8) h12 hk (by rw [m6, ← ec]; exact rk k hk) (by omega) (by omega) ht h h2 (fun N hN => ⟨?_, ?_⟩)
    · rw [m6, fNow_of hk rv rs, rs k hk]
    · have g : ∀ o, o ≠ 163 → o ≠ 164 → o ≠ 200 → o ≠ 214 → N o = M o := fun o h1 h2 h3 h4 => by rw [hN.1 o h3 h4, hA.1 o h1 h2]
      have g2 : ∀ j, j ≠ 11 → N 200 j = M 200 j := fun j hj => by rw [hN.2.1 j hj, hA.1 200 (by decide) (by decide)]
      have n163 : N 163 0 = nI (aL t c).length := by rw [hN.1 163 (by decide) (by decide)]; exact hA.2.1
      have n164 : N 164 = A 164 := hN.1 164 (by decide) (by decide)
      obtain ⟨a1, b1, c1, d1, ⟨f0, f1⟩, i1, j1, k1, l1⟩ := hI
      refine ⟨fun r hr => cRow_of (a1 r hr) (by rw [g 201 (by omega) (by omega) (by omega) (by omega)]) (by rw [g 202 (by omega) (by omega) (by omega) (by omega)]) (fun k _ => by rw [g 203 (by omega) (by omega) (by omega) (by omega)]) (g _ (by omega) (by omega) (by omega) (by omega)) (g _ (by omega) (by omega) (by omega) (by omega)), by rw [g 0 (by omega) (by omega) (by omega) (by omega), g2 0 (by omega)]; exact b1, cTape_of c1 (g _ (by omega) (by omega) (by omega) (by omega)) (g _ (by omega) (by omega) (by omega) (by omega)) (g2 1 (by omega)) (g2 2 (by omega)) (g _ (by omega) (by omega) (by omega) (by omega)), cRail_of d1 (g _ (by omega) (by omega) (by omega) (by omega)) (g _ (by omega) (by omega) (by omega) (by omega)) (g _ (by omega) (by omega) (by omega) (by omega)) (g _ (by omega) (by omega) (by omega) (by omega)) (g _ (by omega) (by omega) (by omega) (by omega)) (g _ (by omega) (by omega) (by omega) (by omega)), ⟨cImg_of f0 (by rw [g 211 (by omega) (by omega) (by omega) (by omega)]) (fun j hj => g _ (by omega) (by omega) (by omega) (by omega)) (g _ (by omega) (by omega) (by omega) (by omega)), cImg_of f1 (by rw [g 211 (by omega) (by omega) (by omega) (by omega)]) (fun j hj => g _ (by omega) (by omega) (by omega) (by omega)) (g _ (by omega) (by omega) (by omega) (by omega))⟩, cHist_of i1 (g2 8 (by omega)) (fun o h1 h2 => g o (by omega) (by omega) (by omega) (by omega)) (g _ (by omega) (by omega) (by omega) (by omega)), ⟨by rw [n163, hN.2.2.1], (aL t c).length, n163, ?_, fun j hj => ?_⟩, cSet_of k1 (by rw [g 165 (by omega) (by omega) (by omega) (by omega)]) (by rw [g 165 (by omega) (by omega) (by omega) (by omega)]), hS M N l1 (fun o h1 h2 => g o (by omega) (by omega) (by omega) (by omega))⟩
      · have : c = 1 ∨ c = 2 ∨ c = 3 ∨ c = 4 ∨ c = 5 := by omega
        have w1 : t = 0 ∨ t = 1 := by omega
        rcases w1 with rfl | rfl <;> rcases this with q | q | q | q | q <;> rw [q] <;> decide
      · rw [n164, hA.2.2 j hj, hN.2.2.2 j hj]
  · unfold wX8_ask
    refine p8_isPeg ?_
    rw [e8]
    exact ⟨fun _ => ⟨rfl, hI⟩, fun _ => p8_in ⟨fun q => absurd h2 q, fun _ => ⟨rfl, hI⟩⟩⟩
end PK

