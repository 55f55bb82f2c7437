/-! PURE: chance(), the class's reckoning -/
/-- where the ways are -/
theorem cSet_z {M : zM} (h : cSet M) : ∃ a b, zw (M 165 1) 165 = a ∧ zw (M 165 2) 165 = b ∧ a ≠ b ∧ a ≠ 165 ∧ b ≠ 165 := by
  rcases h with ⟨h1, h2⟩ | ⟨h1, h2⟩
  · rw [h1, h2]; exact ⟨166, 167, rfl, rfl, by decide, by decide, by decide⟩
  · rw [h1, h2]; exact ⟨167, 166, rfl, rfl, by decide, by decide, by decide⟩
theorem wC_le {n : Nat} {K S : Nat → Int32} {c k x : Nat} (hc : c ≤ 10) : wC n K S c k x ≤ 10 := by
  unfold wC
  split
  · split <;> omega
  · omega
def bc (p ch : Nat) : Nat → Nat := fun k => if k + 1 = p then ch / 8 % 2 else if k = p then ch / 4 % 2 else if k = p + 1 then ch / 2 % 2 else ch % 2
def ik (n : Nat) (K V S : Nat → Int32) (v : Int32) (p ch : Nat) : Nat := iS n K V S v (bc p ch) p
def tm (n : Nat) (K V S : Nat → Int32) (v : Int32) (c p : Nat) (A : Nat → Nat) (ch : Nat) : Nat := A (ch / 2) * wC n K S c (p + 2) (ch % 2) * ik n K V S v p ch
def pt (T : Nat → Nat) (ch i : Nat) : Nat := (if i < ch then T i else 0) + (if i + 8 < ch then T (i + 8) else 0)
theorem pt_s {T : Nat → Nat} {ch i : Nat} (hi : i < 8) (hc : ch < 16) : pt T (ch + 1) i = pt T ch i + (if ch % 8 = i then T ch else 0) := by
  unfold pt
  by_cases c : ch % 8 = i
  · rw [if_pos c]
    by_cases d : ch < 8
    · obtain rfl : i = ch := by omega
      rw [if_pos (by omega), if_neg (by omega), if_neg (by omega), if_neg (by omega)]; omega
    · obtain rfl : ch = i + 8 := by omega
      rw [if_pos (by omega), if_pos (by omega), if_pos (by omega), if_neg (by omega)]; omega
  · rw [if_neg c]
    have e1 : (i < ch + 1) ↔ (i < ch) := by omega
    have e2 : (i + 8 < ch + 1) ↔ (i + 8 < ch) := by omega
    simp only [e1, e2, Nat.add_zero]
section CI
variable {M : zM} {J : zL} {n : Nat} {K V S : Nat → Int32}
theorem cr_fr {N : zM} (h : cr M n K V S) (hf : fr M N 165) : cr N n K V S := by
  unfold cr
  rw [hf 20 (by decide), hf 21 (by decide), hf 22 (by decide), hf 24 (by decide)]
  exact h
theorem p5_goOn {p c : Nat} {v : Int32} {A : Nat → Nat} {Q : zM → zL → Prop} (hc : cr M n K V S) (hS : cSet M) (h0 : M 165 0 = nI c) (hc10 : c ≤ 10) (hp : p + 1 < n) (hA : ∀ i, i < 8 → J (zw (M 165 1) 165) i = lN (A i))
    (h : ∀ N J', fr M N 165 → cSet N → N 165 0 = nI c → (∀ i, i < 8 → J' (zw (N 165 1) 165) i = lN (tm n K V S v c p A i + tm n K V S v c p A (i + 8))) → Q N J') : wX5_goOn M J 165 20 (nI p) v Q := by
  have h12 := hc.2.1
  obtain ⟨a, b, ea, eb, nab, na, nb⟩ := cSet_z hS
  unfold wX5_goOn
  rw [eb]
  rw [ea] at hA
  refine pL_fill (fun J7 f7 z7 => ?_)
  have key : ∀ C : Int32 → zL → Prop, (∀ x J', (∀ i, i < 8 → J' b i = lN (pt (tm n K V S v c p A) 16 i)) → C x J') → ∀ d ch, ch + d = 16 → ∀ J' : zL, (∀ i, i < 8 → J' a i = lN (A i)) → (∀ i, i < 8 → J' b i = lN (pt (tm n K V S v c p A) ch i)) → lpX5_goOn_11 165 20 (nI p) v M C (d + 1) (nI ch) J' := by
    intro C hC d
    induction d with
    | zero =>
      intro ch hch J' ha hb
      obtain rfl : ch = 16 := by omega
      unfold lpX5_goOn_11
      exact ⟨fun _ => hC _ J' hb, fun q => absurd (show (16 : Int32) ≤ nI 16 by decide) q⟩
    | succ d ih =>
      intro ch hch J' ha hb
      have nx : ∀ J2 : zL, (∀ i, i < 8 → J2 a i = lN (A i)) → (∀ i, i < 8 → J2 b i = lN (pt (tm n K V S v c p A) ch i) + (if ch % 8 = i then lN (tm n K V S v c p A ch) else 0)) → lpX5_goOn_11 165 20 (nI p) v M C (d + 1) (nI (ch + 1)) J2 := by
        intro J2 ha2 hb2
        refine ih (ch + 1) (by omega) J2 ha2 (fun i hi => ?_)
        rw [hb2 i hi, pt_s hi (by omega), ← lN_add]
        split
        · rfl
        · rfl
      unfold lpX5_goOn_11
      rw [ea, eb, show (2 : Int32) = nI 2 from rfl, show (8 : Int32) = nI 8 from rfl, nI_add, pk_rem (by omega) (by omega) (by omega), pk_rem (by omega) (by omega) (by omega), pk_div (by omega) (by omega) (by omega), cl_of (by omega), cl_of (by omega)]
      refine ⟨fun q => absurd q (nI_ge (a := ch) (b := 16) (by omega) (by decide)), fun _ => ⟨vp_of (by omega) (by omega), fun y14 e14 => p5_waysOf hc h0 hc10 (by omega) (by omega) ?_⟩⟩
      rw [ha _ (by omega)] at e14
      have hw := wC_le (n := n) (K := K) (S := S) (k := p + 2) (x := ch % 2) hc10
      rw [e14, nI_l (by omega), lN_mul]
      have et : tm n K V S v c p A ch = A (ch / 2) * wC n K S c (p + 2) (ch % 2) * ik n K V S v p ch := rfl
      refine ⟨fun z x16 e16 => ?_, fun z => p5_stepBy (β := bc p ch) hc hp (by omega) (fun q => ?_) ?_ ?_ (fun q => ?_) ⟨fun z2 x18 e18 => ?_, fun z2 => ⟨vp_of (by omega) (by omega), fun y19 e19 => ⟨vp_of (by omega) (by omega), fun J20 e20 x21 e21 => ?_⟩⟩⟩⟩
      · rw [cmp_0] at z
        rw [e16, nI_1]
        refine nx J' ha (fun i hi => ?_)
        rw [hb i hi, et, ← lN_mul, z]
        split
        · rw [Int64.zero_mul, Int64.add_zero]
        · rw [Int64.add_zero]
      · unfold bc; rw [if_pos (by omega)]
      · unfold bc; rw [if_neg (by omega), if_pos rfl]
      · unfold bc; rw [if_neg (by omega), if_neg (by omega), if_pos rfl]
      · unfold bc; rw [if_neg (by omega), if_neg (by omega), if_neg (by omega)]
      · have e0 : ik n K V S v p ch = 0 := by
          unfold ik iS
          rw [if_neg (by rw [pn_lt] at z2; rw [pn_le]; omega)]
        rw [e18, nI_1]
        refine nx J' ha (fun i hi => ?_)
        rw [hb i hi, et, e0, Nat.mul_zero]
        split
        · exact (Int64.add_zero _).symm
        · exact (Int64.add_zero _).symm
      · have e1 : ik n K V S v p ch = 1 := by
          unfold ik iS
          rw [if_pos (by rw [pn_lt] at z2; rw [pn_le]; omega)]
        rw [e21, nI_1]
        refine nx J20 (fun i hi => ?_) (fun i hi => ?_)
        · rw [e20, va_up_ne _ _ nab]; exact ha i hi
        · rw [e20, va_up_self, et, e1, Nat.mul_one]
          by_cases ci : ch % 8 = i
          · rw [if_pos ci, ci, pk_uLs, e19, ci, hb i hi]
          · rw [if_neg ci, pk_uLn (by omega), hb i hi, Int64.add_zero]
  refine ⟨_, key _ (fun x J' hb M12 e12 M13 e13 => ?_) 16 0 (by omega) J7 (fun i hi => by rw [f7 a nab]; exact hA i hi) (fun i hi => by rw [z7 i hi]; rfl)⟩
  have g12 : M12 165 = upd (M 165) 1 (M 165 2) := by rw [e12, va_up_self]
  have g13 : M13 165 = upd (upd (M 165) 1 (M 165 2)) 2 (M 165 1) := by rw [e13, va_up_self, g12]
  have n1 : M13 165 1 = M 165 2 := by rw [g13, pk_un (by decide), pk_us]
  have n2 : M13 165 2 = M 165 1 := by rw [g13, pk_us]
  refine h M13 J' (fun x hx => by rw [e13, va_up_ne _ _ hx, e12, va_up_ne _ _ hx]) ?_ ?_ (fun i hi => ?_)
  · unfold cSet
    rw [n1, n2]
    exact hS.elim (fun q => Or.inr ⟨q.2, q.1⟩) (fun q => Or.inl ⟨q.2, q.1⟩)
  · rw [g13, pk_un (by decide), pk_un (by decide)]; exact h0
  · rw [n1, eb, hb i hi]
    unfold pt
    rw [if_pos (by omega), if_pos (by omega)]
def a0 (n : Nat) (K S : Nat → Int32) (c i : Nat) : Nat := if i < 4 then wC n K S c 0 (i / 2) * wC n K S c 1 (i % 2) else 0
theorem p5_begin {c : Nat} {Q : zM → zL → Prop} (hc : cr M n K V S) (hS : cSet M) (h0 : M 165 0 = nI c) (hc10 : c ≤ 10) (h : ∀ J', (∀ i, i < 8 → J' (zw (M 165 1) 165) i = lN (a0 n K S c i)) → Q M J') : wX5_beginWays M J 165 20 Q := by
  have h12 := hc.2.1
  obtain ⟨a, b, ea, eb, nab, na, nb⟩ := cSet_z hS
  unfold wX5_beginWays
  rw [ea]
  rw [ea] at h
  refine pL_fill (fun J5 f5 z5 => ?_)
  have key : ∀ d i, i + d = 4 → ∀ J' : zL, (∀ k, k < 8 → J' a k = lN (if k < i then a0 n K S c k else 0)) → lpX5_beginWays_10 165 20 M Q (d + 1) (nI i) J' := by
    intro d
    induction d with
    | zero =>
      intro i hi J' hJ
      obtain rfl : i = 4 := by omega
      unfold lpX5_beginWays_10
      refine ⟨fun _ => h J' (fun k hk => ?_), fun q => absurd (show (4 : Int32) ≤ nI 4 by decide) q⟩
      rw [hJ k hk]
      unfold a0
      by_cases q : k < 4
      · rw [if_pos q]
      · rw [if_neg q, if_neg q]
    | succ d ih =>
      intro i hi J' hJ
      unfold lpX5_beginWays_10
      rw [ea, show (2 : Int32) = nI 2 from rfl, pk_rem (by omega) (by omega) (by omega), pk_div (by omega) (by omega) (by omega), cl_of (by omega)]
      refine ⟨fun q => absurd q (nI_ge (a := i) (b := 4) (by omega) (by decide)), fun _ => p5_waysOf (k := 0) hc h0 hc10 (by omega) (by omega) (p5_waysOf (k := 1) hc h0 hc10 (by omega) (by omega) ⟨vp_of (by omega) (by omega), fun J10 e10 x11 e11 => ?_⟩)⟩
      have w0 := wC_le (n := n) (K := K) (S := S) (k := 0) (x := i / 2) hc10
      have w1 := wC_le (n := n) (K := K) (S := S) (k := 1) (x := i % 2) hc10
      have ww := Nat.mul_le_mul w0 w1
      rw [e11, nI_1]
      refine ih (i + 1) (by omega) J10 (fun k hk => ?_)
      rw [e10, va_up_self]
      by_cases q : k = i
      · subst q
        rw [pk_uLs, if_pos (by omega), pk_mul, nI_l (by omega)]
        unfold a0
        rw [if_pos (by omega)]
      · rw [pk_uLn q, hJ k hk]
        by_cases q2 : k < i
        · rw [if_pos q2, if_pos (by omega)]
        · rw [if_neg q2, if_neg (by omega)]
  exact ⟨_, key 4 0 (by omega) J5 (fun k hk => by rw [z5 k hk, if_neg (by omega)]; rfl)⟩
end CI
/-- what the ways stand for, p steps on -/
def co (p : Nat) (β : Nat → Nat) : Nat := (if p = 0 then 0 else 4 * β (p - 1)) + 2 * β p + β (p + 1)
def wy (n : Nat) (K V S : Nat → Int32) (v : Int32) (c p : Nat) (A : Nat → Nat) : Prop := ∀ ψ : Nat → Nat, ns (fun i => A i * ψ i) 8 = SU (p + 2) (fun β => pW (wC n K S c) β (p + 2) * (pI n K V S v β p * ψ (co p β)))
theorem wy_0 {n : Nat} {K V S : Nat → Int32} {v : Int32} {c : Nat} : wy n K V S v c 0 (a0 n K S c) := by
  intro ψ
  rw [SU_s, SU_s]
  show 0 + a0 n K S c 0 * ψ 0 + a0 n K S c 1 * ψ 1 + a0 n K S c 2 * ψ 2 + a0 n K S c 3 * ψ 3 + a0 n K S c 4 * ψ 4 + a0 n K S c 5 * ψ 5 + a0 n K S c 6 * ψ 6 + a0 n K S c 7 * ψ 7 = 1 * (wC n K S c 0 0 * (wC n K S c 1 0 * (1 * ψ 0) + wC n K S c 1 1 * (1 * ψ 1)) + wC n K S c 0 1 * (wC n K S c 1 0 * (1 * ψ 2) + wC n K S c 1 1 * (1 * ψ 3)))
  have e4 : ∀ i, 4 ≤ i → a0 n K S c i = 0 := fun i hi => by unfold a0; rw [if_neg (by omega)]
  rw [e4 4 (by omega), e4 5 (by omega), e4 6 (by omega), e4 7 (by omega), show a0 n K S c 0 = wC n K S c 0 0 * wC n K S c 1 0 from rfl, show a0 n K S c 1 = wC n K S c 0 0 * wC n K S c 1 1 from rfl, show a0 n K S c 2 = wC n K S c 0 1 * wC n K S c 1 0 from rfl, show a0 n K S c 3 = wC n K S c 0 1 * wC n K S c 1 1 from rfl]
  simp only [Nat.one_mul, Nat.zero_mul, Nat.mul_add, Nat.mul_assoc, Nat.add_zero, Nat.zero_add]
  omega
theorem s8_two (T ψ : Nat → Nat) : ns (fun i => (T i + T (i + 8)) * ψ i) 8 = ns (fun ch => T ch * ψ (ch % 8)) 16 := by
  show 0 + (T 0 + T 8) * ψ 0 + (T 1 + T 9) * ψ 1 + (T 2 + T 10) * ψ 2 + (T 3 + T 11) * ψ 3 + (T 4 + T 12) * ψ 4 + (T 5 + T 13) * ψ 5 + (T 6 + T 14) * ψ 6 + (T 7 + T 15) * ψ 7 = 0 + T 0 * ψ 0 + T 1 * ψ 1 + T 2 * ψ 2 + T 3 * ψ 3 + T 4 * ψ 4 + T 5 * ψ 5 + T 6 * ψ 6 + T 7 * ψ 7 + T 8 * ψ 0 + T 9 * ψ 1 + T 10 * ψ 2 + T 11 * ψ 3 + T 12 * ψ 4 + T 13 * ψ 5 + T 14 * ψ 6 + T 15 * ψ 7
  simp only [Nat.add_mul]
  omega
theorem ns_pair (A g : Nat → Nat) : ∀ m, ns (fun ch => A (ch / 2) * g ch) (2 * m) = ns (fun i => A i * (g (2 * i) + g (2 * i + 1))) m := by
  intro m
  induction m with
  | zero => rfl
  | succ m ih =>
    rw [show 2 * (m + 1) = 2 * m + 1 + 1 by omega, ns, ns, ih, ns, show 2 * m / 2 = m by omega, show (2 * m + 1) / 2 = m by omega, Nat.mul_add]
    omega
theorem wy_s {n : Nat} {K V S : Nat → Int32} {v : Int32} {c p : Nat} {A : Nat → Nat} (hp : p + 1 < n) (h12 : n ≤ 12) (h : wy n K V S v c p A) : wy n K V S v c (p + 1) (fun i => tm n K V S v c p A i + tm n K V S v c p A (i + 8)) := by
  intro ψ
  rw [s8_two]
  have e1 : ns (fun ch => tm n K V S v c p A ch * ψ (ch % 8)) 16 = ns (fun ch => A (ch / 2) * (wC n K S c (p + 2) (ch % 2) * ik n K V S v p ch * ψ (ch % 8))) (2 * 8) := by
    refine ns_of 16 (fun ch _ => ?_)
    unfold tm
    simp only [Nat.mul_assoc]
  rw [e1, ns_pair A (fun ch => wC n K S c (p + 2) (ch % 2) * ik n K V S v p ch * ψ (ch % 8)) 8, h]
  rw [show p + 1 + 2 = p + 2 + 1 from rfl, SU_s (m := p + 2)]
  refine SU_of _ _ _ (fun β hb hz => ?_)
  have l0 := hb p
  have l1 := hb (p + 1)
  have l2 := hb (p - 1)
  have co1 : ∀ t, t ≤ 1 → co (p + 1) (ub β (p + 2) t) = (2 * co p β + t) % 8 := by
    intro t ht
    unfold co
    rw [if_neg (by omega), show p + 1 - 1 = p by omega, ub_n (by omega), ub_n (by omega), show p + 1 + 1 = p + 2 from rfl, ub_s]
    by_cases q : p = 0
    · rw [if_pos q]; omega
    · rw [if_neg q]; omega
  have is1 : ∀ t, t ≤ 1 → iS n K V S v (ub β (p + 2) t) p = ik n K V S v p (2 * co p β + t) := by
    intro t ht
    unfold ik
    refine iS_loc hp (fun j h1 h2 h3 => ?_)
    unfold bc co
    rcases (show j + 1 = p ∨ j = p ∨ j = p + 1 ∨ j = p + 2 by omega) with q | q | q | q
    · rw [ub_n (by omega), if_pos q, if_neg (by omega), show p - 1 = j by omega]
      rw [show p - 1 = j by omega] at l2
      omega
    · rw [ub_n (by omega), if_neg (by omega), if_pos q, q]
      split <;> omega
    · rw [ub_n (by omega), if_neg (by omega), if_neg (by omega), if_pos q, q]
      split <;> omega
    · rw [q, ub_s, if_neg (by omega), if_neg (by omega), if_neg (by omega)]
      split <;> omega
  have pi1 : ∀ t, pI n K V S v (ub β (p + 2) t) (p + 1) = pI n K V S v β p * iS n K V S v (ub β (p + 2) t) p := by
    intro t
    rw [pI, pI_ub p (by omega) (by omega) h12]
  show _ = pW (wC n K S c) β (p + 2) * (wC n K S c (p + 2) 0 * (pI n K V S v (ub β (p + 2) 0) (p + 1) * ψ (co (p + 1) (ub β (p + 2) 0))) + wC n K S c (p + 2) 1 * (pI n K V S v (ub β (p + 2) 1) (p + 1) * ψ (co (p + 1) (ub β (p + 2) 1))))
  rw [pi1, pi1, is1 0 (by omega), is1 1 (by omega), co1 0 (by omega), co1 1 (by omega)]
  rw [show (2 * co p β) % 2 = 0 by omega, show (2 * co p β + 1) % 2 = 1 by omega, Nat.add_zero]
  congr 1
  rw [Nat.mul_add]
  congr 1
  · simp only [Nat.mul_assoc, Nat.mul_left_comm, Nat.add_zero]
  · simp only [Nat.mul_assoc, Nat.mul_left_comm]
