/-! PURE: rail(), the reference's tokens -/
def bt (b : Nat → Int32) (L s : Nat) : Int32 := if L ≤ s then -1 else b s
def tok (b : Nat → Int32) (L s : Nat) : Int32 := if L ≤ s then 0 else if dg b L s = true then (if 3 ≤ fig b L s then 5 else 2) else if zin (b s) 97 122 = 0 then (if b s = 44 then 3 else if b s = 59 then 4 else 5) else 1
def vl (b : Nat → Int32) (L s : Nat) : Int32 := if L ≤ s then -1 else if dg b L s = true then num b L s else b s
def nx (b : Nat → Int32) (L s : Nat) : Nat := if L ≤ s then s else nxt b L s
theorem nx_le {b : Nat → Int32} {L s : Nat} (h : s ≤ L) : nx b L s ≤ L := by
  unfold nx
  by_cases c : L ≤ s
  · rw [if_pos c]; exact h
  · rw [if_neg c]; exact nxt_le (by omega)
def adv (M N : zM) (b : Nat → Int32) (L s : Nat) : Prop := (∀ o, o ≠ 200 → N o = M o) ∧ (∀ k, k < 4 ∨ 7 < k → N 200 k = M 200 k) ∧ N 200 4 = nI (nx b L s) ∧ N 200 5 = nI s ∧ N 200 6 = tok b L s ∧ N 200 7 = vl b L s
theorem p8_byteAt {M : zM} {s L : Nat} {b : Nat → Int32} {Q : Int32 → Prop} (hL : M 200 1 = nI L) (h120 : L ≤ 120) (hb : ∀ j, j < L → M 205 j = b j) (hs : s ≤ 1000) (h : Q (bt b L s)) : wX8_byteAt M 200 (nI s) Q := by
  unfold wX8_byteAt
  unfold bt at h
  rw [hL]
  refine ⟨fun c => ?_, fun c => ?_⟩
  · rw [pn_le, pn_n (by omega), pn_n (by omega)] at c
    rwa [if_pos (by omega)] at h
  · rw [pn_le, pn_n (by omega), pn_n (by omega)] at c
    rw [if_neg (by omega)] at h
    rw [cl_of (by omega), show M (200 + 5) s = b s from hb s (by omega)]
    exact ⟨vp_of (by omega) (by omega), h⟩
theorem zin_dg {b : Nat → Int32} {L s : Nat} : zin (bt b L s) 48 57 = 0 ↔ ¬ dg b L s = true := by
  rw [zin_0, pn_lt, pn_lt, show (48 : Int32).toInt = 48 from rfl, show (57 : Int32).toInt = 57 from rfl]
  unfold bt
  by_cases c : L ≤ s
  · rw [if_pos c, show (-1 : Int32).toInt = -1 from rfl]
    exact ⟨fun _ q => by have := dg_t q; omega, fun _ => by omega⟩
  · rw [if_neg c]
    refine ⟨fun q q2 => by have := dg_t q2; omega, fun q => ?_⟩
    have := dg_f q
    omega
theorem nv_2 {b : Nat → Int32} {s i : Nat} (h : 2 ≤ i) : nv b s i = nv b s (i + 1) := by
  match i, h with
  | i + 2, _ => rfl
theorem p8_advances {M : zM} {s L : Nat} {b : Nat → Int32} {Q : zM → Prop} (hL : M 200 1 = nI L) (h120 : L ≤ 120) (hb : ∀ j, j < L → M 205 j = b j) (h0 : ∀ j, j < L → 0 ≤ (b j).toInt) (hs : s ≤ L) (h4 : M 200 4 = nI s) (h : ∀ N, adv M N b L s → Q N) : wX8_advances M 200 Q := by
  unfold wX8_advances
  intro M3 e3
  have g3 : M3 200 = upd (M 200) 5 (nI s) := by rw [e3, va_up_self, h4]
  have f3 : ∀ o, o ≠ 200 → M3 o = M o := fun o ho => by rw [e3, va_up_ne _ _ ho]
  rw [show M3 200 4 = nI s by rw [g3, pk_un (by decide)]; exact h4]
  refine p8_byteAt (by rw [g3, pk_un (by decide)]; exact hL) h120 (by rw [f3 205 (by decide)]; exact hb) (by omega) ?_
  intro M5 e5
  have g5 : M5 200 = upd (upd (M 200) 5 (nI s)) 7 (bt b L s) := by rw [e5, va_up_self, g3]
  have f5 : ∀ o, o ≠ 200 → M5 o = M o := fun o ho => by rw [e5, va_up_ne _ _ ho, f3 o ho]
  refine p8_in ⟨fun c => ?_, fun c => ?_⟩
  · have hd := zin_dg.1 c
    have ev : vl b L s = bt b L s := by unfold vl bt; rw [if_neg hd]
    have jn : ∀ x8 : Int32, x8 = tok b L s → jnX8_advances_180 200 M5 Q x8 := by
      intro x8 e8 M9 e9
      have g9 : M9 200 = upd (upd (upd (M 200) 5 (nI s)) 7 (bt b L s)) 6 (tok b L s) := by rw [e9, va_up_self, g5, e8]
      have f9 : ∀ o, o ≠ 200 → M9 o = M o := fun o ho => by rw [e9, va_up_ne _ _ ho, f5 o ho]
      have a9 : M9 200 4 = nI s := by rw [g9, pk_un (by decide), pk_un (by decide), pk_un (by decide)]; exact h4
      have fin : ∀ (N : zM) (x : Int32), N = va_up M9 200 (upd (M9 200) 4 x) → x = nI (nx b L s) → Q N := by
        intro N x eN ex
        refine h N ⟨fun o ho => by rw [eN, va_up_ne _ _ ho, f9 o ho], fun k hk => ?_, ?_, ?_, ?_, ?_⟩
        · rw [eN, va_up_self, g9, pk_un (by omega), pk_un (by omega), pk_un (by omega), pk_un (by omega)]
        · rw [eN, va_up_self, pk_us, ex]
        · rw [eN, va_up_self, g9, pk_un (by decide), pk_un (by decide), pk_un (by decide), pk_us]
        · rw [eN, va_up_self, g9, pk_un (by decide), pk_us]
        · rw [eN, va_up_self, g9, pk_un (by decide), pk_un (by decide), pk_us, ev]
      rw [show M9 200 6 = tok b L s by rw [g9, pk_us], a9]
      by_cases cL : L ≤ s
      · have et : tok b L s = 0 := by unfold tok; rw [if_pos cL]
        refine ⟨fun q => absurd et q, fun _ M11 e11 => fin M11 _ e11 ?_⟩
        rw [Int32.add_zero]; unfold nx; rw [if_pos cL]
      · have et : ¬ tok b L s = 0 := by
          unfold tok
          rw [if_neg cL, if_neg hd]
          repeat' split
          all_goals decide
        refine ⟨fun _ M11 e11 => fin M11 _ e11 ?_, fun q => absurd q et⟩
        rw [nI_1]; unfold nx nxt; rw [if_neg cL, if_pos (fig_f hd)]
    have et : tok b L s = if L ≤ s then 0 else if zin (b s) 97 122 = 0 then (if b s = 44 then 3 else if b s = 59 then 4 else 5) else 1 := by
      unfold tok; rw [if_neg hd]
    by_cases cL : L ≤ s
    · have eb : bt b L s = -1 := by unfold bt; rw [if_pos cL]
      rw [eb]
      exact ⟨fun q => absurd q (by decide), fun _ => jn 0 (by rw [et, if_pos cL])⟩
    · have eb : bt b L s = b s := by unfold bt; rw [if_neg cL]
      rw [eb]
      rw [if_neg cL] at et
      have hb0 := h0 s (by omega)
      refine ⟨fun _ => p8_in ⟨fun z => ⟨fun q1 => ⟨fun q2 => jn 5 ?_, fun q2 => jn 4 ?_⟩, fun q1 => jn 3 ?_⟩, fun z => jn 1 ?_⟩, fun q => absurd (by rw [pn_le, t0]; exact hb0) q⟩
      · rw [et, if_pos z, if_neg q1, if_neg q2]
      · rw [et, if_pos z, if_neg q1, if_pos q2]
      · rw [et, if_pos z, if_pos q1]
      · rw [et, if_neg z]
  · intro M13 e13
    have hd : dg b L s = true := by
      by_cases q : dg b L s = true
      · exact q
      · exact absurd (zin_dg.2 q) c
    have hsL := (dg_t hd).1
    have hfs := fig_le (b := b) (L := L) (L - s) s (by omega)
    have key : ∀ C : zM → Prop, (∀ N : zM, (∀ o, o ≠ 200 → N o = M o) → (∀ k, k < 4 ∨ 7 < k → N 200 k = M 200 k) → N 200 4 = nI (s + fig b L s) → N 200 5 = nI s → N 200 7 = num b L s → C N) → ∀ d i, i + d = fig b L s → fig b L (s + i) = d → ∀ N : zM, (∀ o, o ≠ 200 → N o = M o) → (∀ k, k < 4 ∨ 7 < k → N 200 k = M 200 k) → N 200 4 = nI (s + i) → N 200 5 = nI s → N 200 7 = nv b s i → lpX8_advances_38 200 C (d + 1) N := by
      intro C hC d
      induction d with
      | zero =>
        intro i hi hf N n1 n2 n4 n5 n7
        unfold lpX8_advances_38
        rw [n4]
        refine p8_byteAt (by rw [n2 1 (by omega)]; exact hL) h120 (by rw [n1 205 (by decide)]; exact hb) (by omega) (p8_in ⟨fun _ => hC N n1 n2 ?_ n5 ?_, fun q => ?_⟩)
        · rw [n4]; congr 1; omega
        · rw [n7]; unfold num; congr 1
        · exfalso
          by_cases z : dg b L (s + i) = true
          · rw [fig_t z] at hf; omega
          · exact q (zin_dg.2 z)
      | succ d ih =>
        intro i hi hf N n1 n2 n4 n5 n7
        have z : dg b L (s + i) = true := by
          by_cases z : dg b L (s + i) = true
          · exact z
          · rw [fig_f z] at hf; omega
        have ez : bt b L (s + i) = b (s + i) := by unfold bt; rw [if_neg (by have := dg_t z; omega)]
        rw [fig_t z] at hf
        have go : ∀ x22 : Int32, x22 = nv b s (i + 1) → jnX8_advances_96 200 N (lpX8_advances_38 200 C (d + 1)) x22 := by
          intro x22 e22 M23 e23 M24 e24
          have g23 : M23 200 = upd (N 200) 7 (nv b s (i + 1)) := by rw [e23, va_up_self, e22]
          have g24 : M24 200 = upd (upd (N 200) 7 (nv b s (i + 1))) 4 (nI (s + (i + 1))) := by
            rw [e24, va_up_self, g23, pk_un (by decide), n4, nI_1]; rfl
          refine ih (i + 1) (by omega) (by rw [show s + (i + 1) = s + i + 1 by omega]; omega) M24 (fun o ho => by rw [e24, va_up_ne _ _ ho, e23, va_up_ne _ _ ho, n1 o ho]) (fun k hk => ?_) ?_ ?_ ?_
          · rw [g24, pk_un (by omega), pk_un (by omega), n2 k hk]
          · rw [g24, pk_us]
          · rw [g24, pk_un (by decide), pk_un (by decide), n5]
          · rw [g24, pk_un (by decide), pk_us]
        unfold lpX8_advances_38
        rw [n4, n5]
        refine p8_byteAt (by rw [n2 1 (by omega)]; exact hL) h120 (by rw [n1 205 (by decide)]; exact hb) (by omega) (p8_in ⟨fun q => absurd z (zin_dg.1 q), fun _ => ?_⟩)
        rw [pk_sub (by omega), show s + i - s = i by omega]
        refine ⟨fun q => go _ ?_, fun q => p8_byteAt (by rw [n2 1 (by omega)]; exact hL) h120 (by rw [n1 205 (by decide)]; exact hb) (by omega) (fun x26 e26 => go _ ?_)⟩
        · rw [pn_le, pn_n (by omega), show (2 : Int32).toInt = 2 from rfl] at q
          rw [n7]; exact nv_2 (by omega)
        · rw [pn_le, pn_n (by omega), show (2 : Int32).toInt = 2 from rfl] at q
          rw [e26, n7, ez, Int32.mul_comm]; exact nv_s (by omega)
    have g13 : M13 200 = upd (upd (upd (M 200) 5 (nI s)) 7 (bt b L s)) 7 0 := by rw [e13, va_up_self, g5]
    refine ⟨fig b L s + 1, key _ ?_ (fig b L s) 0 (by omega) rfl M13 (fun o ho => by rw [e13, va_up_ne _ _ ho, f5 o ho]) (fun k hk => by rw [g13, pk_un (by omega), pk_un (by omega), pk_un (by omega)]) ?_ ?_ ?_⟩
    · intro N n1 n2 n4 n5 n7
      rw [n4, n5, pk_sub (by omega), show s + fig b L s - s = fig b L s by omega]
      have enx : nx b L s = s + fig b L s := by
        unfold nx nxt; rw [if_neg (by omega), if_neg (by rw [fig_t hd]; omega)]
      have evl : vl b L s = num b L s := by unfold vl; rw [if_neg (by omega), if_pos hd]
      have fin : ∀ (P : zM) (x : Int32), P = va_up N 200 (upd (N 200) 6 x) → x = tok b L s → Q P := by
        intro P x eP ex
        refine h P ⟨fun o ho => by rw [eP, va_up_ne _ _ ho, n1 o ho], fun k hk => ?_, ?_, ?_, ?_, ?_⟩
        · rw [eP, va_up_self, pk_un (by omega), n2 k hk]
        · rw [eP, va_up_self, pk_un (by decide), n4, enx]
        · rw [eP, va_up_self, pk_un (by decide), n5]
        · rw [eP, va_up_self, pk_us, ex]
        · rw [eP, va_up_self, pk_un (by decide), n7, evl]
      refine ⟨fun q M16 e16 => fin M16 _ e16 ?_, fun q M17 e17 => fin M17 _ e17 ?_⟩
      · rw [pn_le, pn_n (by omega), show (3 : Int32).toInt = 3 from rfl] at q
        unfold tok; rw [if_neg (by omega), if_pos hd, if_pos (by omega)]
      · rw [pn_le, pn_n (by omega), show (3 : Int32).toInt = 3 from rfl] at q
        unfold tok; rw [if_neg (by omega), if_pos hd, if_neg (by omega)]
    · rw [g13, pk_un (by decide), pk_un (by decide), pk_un (by decide)]; exact h4
    · rw [g13, pk_un (by decide), pk_un (by decide), pk_us]
    · rw [g13, pk_us]; rfl
theorem p8_kindOf {M : zM} {c : Int32} {Q : Int32 → Prop} (h : Q (knd c)) : wX8_kindOf M c Q := by
  unfold wX8_kindOf
  unfold knd at h
  have i1 : c = 112 ↔ c.toInt = 112 := by rw [pn_eq]; exact Iff.rfl
  have i2 : c = 115 ↔ c.toInt = 115 := by rw [pn_eq]; exact Iff.rfl
  have i3 : c = 106 ↔ c.toInt = 106 := by rw [pn_eq]; exact Iff.rfl
  have i4 : c = 98 ↔ c.toInt = 98 := by rw [pn_eq]; exact Iff.rfl
  have i5 : c = 101 ↔ c.toInt = 101 := by rw [pn_eq]; exact Iff.rfl
  rw [i1, i2, i3, i4, i5]
  refine ⟨fun c1 => ⟨fun c2 => ⟨fun c3 => ⟨fun c4 => ⟨fun c5 => ?_, fun c5 => ?_⟩, fun c4 => ?_⟩, fun c3 => ?_⟩, fun c2 => ?_⟩, fun c1 => ?_⟩
  · rwa [if_neg c4, if_neg c5, if_neg c3, if_neg c1, if_neg c2] at h
  · rwa [if_neg c4, if_pos c5] at h
  · rwa [if_pos c4] at h
  · rwa [if_neg (by omega), if_neg (by omega), if_pos c3] at h
  · rwa [if_neg (by omega), if_neg (by omega), if_neg (by omega), if_neg c1, if_pos c2] at h
  · rwa [if_neg (by omega), if_neg (by omega), if_neg (by omega), if_pos c1] at h
theorem tok_2 {b : Nat → Int32} {L s : Nat} (h : s < L) : tok b L s = 2 ↔ (1 ≤ fig b L s ∧ fig b L s ≤ 2) := by
  unfold tok
  rw [if_neg (by omega)]
  by_cases d : dg b L s = true
  · rw [if_pos d]
    have := fig_t d
    by_cases c : 3 ≤ fig b L s
    · rw [if_pos c]; exact ⟨fun q => absurd q (by decide), fun q => by omega⟩
    · rw [if_neg c]; exact ⟨fun _ => by omega, fun _ => rfl⟩
  · rw [if_neg d, fig_f d]
    refine ⟨fun q => ?_, fun q => by omega⟩
    exfalso
    revert q
    repeat' split
    all_goals decide
theorem tok_s {b : Nat → Int32} {L s : Nat} (h : s < L) {c : Int32} {x : Int32} (hc : (c = 44 ∧ x = 3) ∨ (c = 59 ∧ x = 4)) : tok b L s = x ↔ b s = c := by
  have hd : b s = c → ¬ dg b L s = true := fun q d => by
    have := dg_t d
    rw [q] at this
    rcases hc with ⟨r, -⟩ | ⟨r, -⟩
    · rw [r] at this; exact absurd this.2.1 (by decide)
    · rw [r] at this; exact absurd this.2.2 (by decide)
  have hz : b s = c → zin (b s) 97 122 = 0 := fun q => by
    rw [q]
    rcases hc with ⟨r, -⟩ | ⟨r, -⟩ <;> (rw [r]; decide)
  unfold tok
  rw [if_neg (by omega)]
  by_cases d : dg b L s = true
  · rw [if_pos d]
    refine ⟨fun q => ?_, fun q => absurd d (hd q)⟩
    exfalso
    rcases hc with ⟨-, r⟩ | ⟨-, r⟩ <;> (rw [r] at q; revert q; split <;> decide)
  · rw [if_neg d]
    by_cases z : zin (b s) 97 122 = 0
    · rw [if_pos z]
      rcases hc with ⟨r, r2⟩ | ⟨r, r2⟩
      · rw [r, r2]
        by_cases e : b s = 44
        · rw [if_pos e]; exact ⟨fun _ => e, fun _ => rfl⟩
        · rw [if_neg e]
          refine ⟨fun q => ?_, fun q => absurd q e⟩
          exfalso; revert q; split <;> decide
      · rw [r, r2]
        by_cases e : b s = 44
        · rw [if_pos e]
          exact ⟨fun q => absurd q (by decide), fun q => by rw [q] at e; exact absurd e (by decide)⟩
        · rw [if_neg e]
          by_cases e2 : b s = 59
          · rw [if_pos e2]; exact ⟨fun _ => e2, fun _ => rfl⟩
          · rw [if_neg e2]; exact ⟨fun q => absurd q (by decide), fun q => absurd q e2⟩
    · rw [if_neg z]
      refine ⟨fun q => ?_, fun q => absurd (hz q) z⟩
      rcases hc with ⟨-, r⟩ | ⟨-, r⟩ <;> (rw [r] at q; exact absurd q (by decide))
theorem tok_1 {b : Nat → Int32} {L s : Nat} (h : s < L) (hk : ¬ knd (b s) = 0) : tok b L s = 1 ∧ vl b L s = b s ∧ fig b L s = 0 := by
  have hl := knd_let hk
  have hd : ¬ dg b L s = true := fun d => by have := dg_t d; omega
  refine ⟨?_, ?_, fig_f hd⟩
  · unfold tok
    rw [if_neg (by omega), if_neg hd, if_neg]
    rw [zin_0, pn_lt, pn_lt, show (97 : Int32).toInt = 97 from rfl, show (122 : Int32).toInt = 122 from rfl]
    omega
  · unfold vl; rw [if_neg (by omega), if_neg hd]
theorem tok_1v {b : Nat → Int32} {L s : Nat} (h : tok b L s = 1) : s < L ∧ vl b L s = b s := by
  unfold tok at h
  by_cases c : L ≤ s
  · rw [if_pos c] at h; exact absurd h (by decide)
  · rw [if_neg c] at h
    by_cases d : dg b L s = true
    · rw [if_pos d] at h
      exfalso; revert h; split <;> decide
    · exact ⟨by omega, by unfold vl; rw [if_neg c, if_neg d]⟩
theorem tok_0 {b : Nat → Int32} {L s : Nat} : tok b L s = 0 ↔ L ≤ s := by
  unfold tok
  by_cases c : L ≤ s
  · rw [if_pos c]; exact ⟨fun _ => c, fun _ => rfl⟩
  · rw [if_neg c]
    refine ⟨fun q => ?_, fun q => absurd q c⟩
    exfalso; revert q
    repeat' split
    all_goals decide
