/-! PURE: chance(), the reference's sets -/
def sfN (K : Nat → Int32) : Nat → Nat
  | 0 => 0
  | i + 1 => sfN K i ||| (if K i = 2 then 2 ^ i else 0)
theorem sfN_lt (K : Nat → Int32) : ∀ i, sfN K i < 2 ^ i := by
  intro i
  induction i with
  | zero => exact Nat.one_pos
  | succ i ih =>
    have h2 : 2 ^ (i + 1) = 2 * 2 ^ i := by rw [Nat.pow_succ]; omega
    have hp := Nat.two_pow_pos i
    rw [sfN]
    refine Nat.or_lt_two_pow (by omega) ?_
    split <;> omega
theorem sfN_bit (K : Nat → Int32) : ∀ i k, (sfN K i).testBit k = true ↔ (k < i ∧ K k = 2) := by
  intro i
  induction i with
  | zero =>
    intro k
    rw [sfN, Nat.zero_testBit]
    exact ⟨fun q => absurd q (by decide), fun q => by omega⟩
  | succ i ih =>
    intro k
    rw [sfN, Nat.testBit_or, Bool.or_eq_true, ih]
    by_cases c : K i = 2
    · rw [if_pos c, Nat.testBit_two_pow, decide_eq_true_eq]
      constructor
      · rintro (⟨h1, h2⟩ | h)
        · exact ⟨by omega, h2⟩
        · subst h; exact ⟨by omega, c⟩
      · rintro ⟨h1, h2⟩
        by_cases d : i = k
        · exact Or.inr d
        · exact Or.inl ⟨by omega, h2⟩
    · rw [if_neg c, Nat.zero_testBit]
      constructor
      · rintro (⟨h1, h2⟩ | h)
        · exact ⟨by omega, h2⟩
        · exact absurd h (by decide)
      · rintro ⟨h1, h2⟩
        refine Or.inl ⟨?_, h2⟩
        by_cases d : k = i
        · subst d; exact absurd h2 c
        · omega
theorem nI_or (a b : Nat) : nI a ||| nI b = nI (a ||| b) := by
  apply Int32.toBitVec_inj.1
  show BitVec.ofNat 32 a ||| BitVec.ofNat 32 b = BitVec.ofNat 32 (a ||| b)
  exact BitVec.ofNat_or.symm
theorem sh_k : ∀ k, k < 12 → ((nI k &&& 31).toBitVec.smod 32).toNat = k := by decide +kernel
theorem bit_k {s k : Nat} (hs : s < 4096) (hk : k < 12) : ((nI s >>> (nI k &&& 31)) &&& (1 : Int32)) = nI (s / 2 ^ k % 2) := by
  have h1 : s / 2 ^ k ≤ s := Nat.div_le_self _ _
  rw [pk_shrN (by omega) _ k (sh_k k hk), pk_andN (by omega) 1 (by decide)]
theorem one_sh {k : Nat} (hk : k < 12) : (1 : Int32) <<< (nI k &&& 31) = nI (2 ^ k) := by
  have h1 : (2 : Nat) ^ k ≤ 2 ^ 12 := Nat.pow_le_pow_right (by omega) (by omega)
  have e := pk_shlN (n := 1) (nI k &&& 31) k (sh_k k hk) (by omega)
  rw [Nat.one_mul] at e
  exact e
theorem sub_b {s f k : Nat} (hk : k < 32) : (nI s &&& (nI f ^^^ (-1 : Int32))).toBitVec.getLsbD k = (s.testBit k && !(f.testBit k)) := by
  show (BitVec.ofNat 32 s &&& (BitVec.ofNat 32 f ^^^ (-1 : Int32).toBitVec)).getLsbD k = _
  rw [BitVec.getLsbD_and, BitVec.getLsbD_xor, BitVec.getLsbD_ofNat, BitVec.getLsbD_ofNat, show (-1 : Int32).toBitVec = BitVec.allOnes 32 by decide, BitVec.getLsbD_allOnes]
  simp [hk]
theorem sub_iff {s f : Nat} (hs : s < 4096) : (nI s &&& (nI f ^^^ (-1 : Int32))) = 0 ↔ ∀ k, s.testBit k = true → f.testBit k = true := by
  constructor
  · intro h k hk
    by_cases c : k < 32
    · have e := sub_b (s := s) (f := f) c
      rw [h, hk] at e
      have z : (0 : Int32).toBitVec.getLsbD k = false := by
        show (0#32).getLsbD k = false
        exact BitVec.getLsbD_zero
      rw [z] at e
      cases q : f.testBit k
      · rw [q] at e; exact absurd e (by decide)
      · rfl
    · have : s.testBit k = false := Nat.testBit_lt_two_pow (Nat.lt_of_lt_of_le (show s < 2 ^ 12 by omega) (Nat.pow_le_pow_right (by omega) (by omega)))
      rw [this] at hk; exact absurd hk (by decide)
  · intro h
    apply Int32.toBitVec_inj.1
    apply BitVec.eq_of_getLsbD_eq
    intro k hk
    rw [sub_b hk]
    have z : (0 : Int32).toBitVec.getLsbD k = false := by
      show (0#32).getLsbD k = false
      exact BitVec.getLsbD_zero
    rw [z]
    cases q : s.testBit k
    · rfl
    · rw [h k q]; rfl
theorem tb_1 {s k : Nat} : s.testBit k = true ↔ s / 2 ^ k % 2 = 1 := by rw [Nat.testBit_eq_decide_div_mod_eq, decide_eq_true_eq]
/-- a set of soft pegs alone -/
def sb (n : Nat) (K : Nat → Int32) (s : Nat) : Prop := ∀ k, k < n → s / 2 ^ k % 2 = 1 → K k = 2
theorem sb_iff {n : Nat} {K : Nat → Int32} {s : Nat} (h12 : n ≤ 12) (hs : s < 2 ^ n) : (nI s &&& (nI (sfN K n) ^^^ (-1 : Int32))) = 0 ↔ sb n K s := by
  have h1 : (2 : Nat) ^ n ≤ 2 ^ 12 := Nat.pow_le_pow_right (by omega) h12
  rw [sub_iff (by omega)]
  constructor
  · intro h k hk hb
    exact ((sfN_bit K n k).1 (h k (tb_1.2 hb))).2
  · intro h k hk
    refine (sfN_bit K n k).2 ?_
    by_cases c : k < n
    · exact ⟨c, h k c (tb_1.1 hk)⟩
    · have : s.testBit k = false := Nat.testBit_lt_two_pow (Nat.lt_of_lt_of_le hs (Nat.pow_le_pow_right (by omega) (by omega)))
      rw [this] at hk; exact absurd hk (by decide)
theorem sb_le {n : Nat} {K : Nat → Int32} {s : Nat} (hs : s < 2 ^ n) (h : sb n K s) : s ≤ sfN K n := by
  have e : s &&& sfN K n = s := by
    apply Nat.eq_of_testBit_eq
    intro k
    rw [Nat.testBit_and]
    cases q : s.testBit k
    · rfl
    · have : (sfN K n).testBit k = true := by
        refine (sfN_bit K n k).2 ?_
        by_cases c : k < n
        · exact ⟨c, h k c (tb_1.1 q)⟩
        · have : s.testBit k = false := Nat.testBit_lt_two_pow (Nat.lt_of_lt_of_le hs (Nat.pow_le_pow_right (by omega) (by omega)))
          rw [this] at q; exact absurd q (by decide)
      rw [this]; rfl
  rw [← e]
  exact Nat.and_le_right
theorem pW_z {w : Nat → Nat → Nat} {β : Nat → Nat} {k : Nat} (h : w k (β k) = 0) : ∀ m, k < m → pW w β m = 0 := by
  intro m
  induction m with
  | zero => intro q; omega
  | succ m ih =>
    intro q
    rw [pW]
    by_cases c : k = m
    · subst c; rw [h, Nat.mul_zero]
    · rw [ih (by omega), Nat.zero_mul]
theorem sb_n {n : Nat} {K : Nat → Int32} {c s : Nat} (h : ¬ sb n K s) : pW (wQ K c) (bm n s) n = 0 := by
  have : ∃ k, k < n ∧ s / 2 ^ k % 2 = 1 ∧ ¬ K k = 2 := by
    refine Classical.byContradiction (fun q => h (fun k hk hb => Classical.byContradiction (fun z => q ⟨k, hk, hb, z⟩)))
  obtain ⟨k, hk, hb, hK⟩ := this
  refine pW_z (k := k) ?_ n hk
  unfold bm wQ
  rw [if_pos hk, hb, if_neg hK]
/-- the worst step is no more than v just if none is -/
theorem fW_le {n : Nat} {K V S : Nat → Int32} {v : Int32} (hv : 0 ≤ v.toInt) : ∀ m, (fAcc (fun a b => zmax a b) (fStep n K V S) m ≤ v ↔ ∀ q, q < m → fStep n K V S q ≤ v) := by
  intro m
  induction m with
  | zero =>
    refine ⟨fun _ q hq => by omega, fun _ => ?_⟩
    show (0 : Int32) ≤ v
    rw [pn_le, t0]; exact hv
  | succ m ih =>
    show (if fAcc (fun a b => zmax a b) (fStep n K V S) m < fStep n K V S m then fStep n K V S m else fAcc (fun a b => zmax a b) (fStep n K V S) m) ≤ v ↔ _
    have e : ((if fAcc (fun a b => zmax a b) (fStep n K V S) m < fStep n K V S m then fStep n K V S m else fAcc (fun a b => zmax a b) (fStep n K V S) m) ≤ v) ↔ (fAcc (fun a b => zmax a b) (fStep n K V S) m ≤ v ∧ fStep n K V S m ≤ v) := by
      split
      · rename_i c
        rw [pn_lt] at c
        rw [pn_le, pn_le]
        omega
      · rename_i c
        rw [pn_lt] at c
        rw [pn_le, pn_le]
        omega
    rw [e, ih]
    constructor
    · rintro ⟨h1, h2⟩ q hq
      by_cases c : q = m
      · subst c; exact h2
      · exact h1 q (by omega)
    · intro h
      exact ⟨fun q hq => h q (by omega), h m (by omega)⟩
theorem pI_1 {n : Nat} {K V S : Nat → Int32} {v : Int32} {β : Nat → Nat} : ∀ p, (∀ q, q < p → fStep n K V (sg K S β) q ≤ v) → pI n K V S v β p = 1 := by
  intro p
  induction p with
  | zero => intro _; rfl
  | succ p ih =>
    intro h
    rw [pI, ih (fun q hq => h q (by omega))]
    unfold iS
    rw [if_pos (h p (by omega))]
theorem pI_0 {n : Nat} {K V S : Nat → Int32} {v : Int32} {β : Nat → Nat} {q : Nat} (h : ¬ fStep n K V (sg K S β) q ≤ v) : ∀ p, q < p → pI n K V S v β p = 0 := by
  intro p
  induction p with
  | zero => intro z; omega
  | succ p ih =>
    intro z
    rw [pI]
    by_cases c : q = p
    · subst c
      unfold iS
      rw [if_neg h, Nat.mul_zero]
    · rw [ih (by omega), Nat.zero_mul]
theorem pI_w {n : Nat} {K V S : Nat → Int32} {v : Int32} {β : Nat → Nat} (hv : 0 ≤ v.toInt) : (v < fWorst n K V (sg K S β) → pI n K V S v β (n - 1) = 0) ∧ (¬ v < fWorst n K V (sg K S β) → pI n K V S v β (n - 1) = 1) := by
  have e := fW_le (n := n) (K := K) (V := V) (S := sg K S β) hv (n - 1)
  refine ⟨fun h => ?_, fun h => pI_1 _ (e.1 (by rw [pn_lt] at h; rw [pn_le]; exact Int.not_lt.1 h))⟩
  have h2 : ¬ ∀ q, q < n - 1 → fStep n K V (sg K S β) q ≤ v := fun z => by
    have z2 := e.2 z
    have z2 : fWorst n K V (sg K S β) ≤ v := z2
    rw [pn_lt] at h
    rw [pn_le] at z2
    omega
  have : ∃ q, q < n - 1 ∧ ¬ fStep n K V (sg K S β) q ≤ v := Classical.byContradiction (fun z => h2 (fun q hq => Classical.byContradiction (fun y => z ⟨q, hq, y⟩)))
  obtain ⟨q, hq, hy⟩ := this
  exact pI_0 hy _ hq
section CR
variable {M : zM} {n : Nat} {W : Int32} {K V B S : Nat → Int32}
/-- soft pegs, and how many times ten -/
theorem p8_soft {C : Int32 → Int64 → Int32 → Prop} (h12 : n ≤ 12) (hr : rowOf (M 206) n W K V B S) (h : ∀ x, C (nI (sfN K n)) (lN (bRf n K)) x) : ∃ fu, lpX8_chance_53 M 200 C fu 0 1 0 := by
  have key : ∀ d i, i + d = n → lpX8_chance_53 M 200 C (d + 1) (nI (sfN K i)) (lN (pT (rF K) i)) (nI i) := by
    intro d
    induction d with
    | zero =>
      intro i hi
      obtain rfl : i = n := by omega
      unfold lpX8_chance_53
      rw [show M (200 + 6) (0 : Int32).toNatClampNeg = nI i from hr.1]
      exact ⟨fun _ => h _, fun q => absurd (nI_le (Nat.le_refl _) (by omega)) q⟩
    | succ d ih =>
      intro i hi
      have nx := ih (i + 1) (by omega)
      unfold lpX8_chance_53
      rw [show M (200 + 6) (0 : Int32).toNatClampNeg = nI n from hr.1, nI_4, cl_of (by omega)]
      refine ⟨fun q => absurd q (nI_ge (by omega) (by omega)), fun _ => ⟨vp_of (by omega) (by omega), fun x42 e42 => ?_⟩⟩
      rw [show M (200 + 6) (2 + 4 * i) = K i from hr.2.2.1 i (by omega)] at e42
      rw [e42]
      refine ⟨fun q => ?_, fun q => ?_⟩
      · unfold jnX8_chance_84
        refine ⟨fun _ => ?_, fun z => absurd rfl z⟩
        unfold jnX8_chance_101
        refine ⟨fun _ x45 e45 => ?_, fun z => absurd rfl z⟩
        rw [e45, nI_1, show (0 : Int32) = nI 0 from rfl, nI_or, show (1 : Int64) = lN 1 from rfl, lN_mul]
        rw [sfN, if_neg q, pT] at nx
        unfold rF at nx ⊢
        rw [if_neg q] at nx
        exact nx
      · unfold jnX8_chance_84
        refine ⟨fun z => absurd z (by decide), fun _ => ?_⟩
        unfold jnX8_chance_101
        refine ⟨fun z => absurd z (by decide), fun _ x46 e46 => ?_⟩
        rw [e46, nI_1, one_sh (by omega), nI_or, show (10 : Int64) = lN 10 from rfl, lN_mul]
        rw [sfN, if_pos q, pT] at nx
        unfold rF at nx ⊢
        rw [if_pos q] at nx
        exact nx
  exact ⟨_, key n 0 (by omega)⟩
/-- one set: its ways, and the slews that it comes to -/
theorem p8_set {A : zM} {s c : Nat} {C : Int64 → Int32 → zM → Prop} (h12 : n ≤ 12) (hn : A 206 0 = nI n) (hc : c ≤ 10) (hs : s < 2 ^ n) (hb : sb n K s) (hr : rowOf (A 208) n W K V B S) (h : ∀ x N, fr A N 208 → rowOf (N 208) n W K V B (sg K S (bm n s)) → C (lN (pW (wQ K c) (bm n s) n)) x N) : ∃ fu, lpX8_chance_169 200 (nI c) (nI (sfN K n)) (nI s) C fu 1 0 A := by
  have hp : (2 : Nat) ^ n ≤ 2 ^ 12 := Nat.pow_le_pow_right (by omega) h12
  have hsf := sfN_lt K n
  have key : ∀ d i, i + d = n → ∀ N : zM, fr A N 208 → rowOf (N 208) n W K V B (mix i (sg K S (bm n s)) S) → lpX8_chance_169 200 (nI c) (nI (sfN K n)) (nI s) C (d + 1) (lN (pW (wQ K c) (bm n s) i)) (nI i) N := by
    intro d
    induction d with
    | zero =>
      intro i hi N fN rN
      obtain rfl : i = n := by omega
      unfold lpX8_chance_169
      rw [show N (200 + 6) (0 : Int32).toNatClampNeg = nI i by show N 206 0 = nI i; rw [fN 206 (by decide)]; exact hn]
      exact ⟨fun _ => h _ N fN (row_of rN rfl (fun _ _ => rfl) (fun _ _ => rfl) (fun _ _ => rfl) (fun k hk => mix_n hk)), fun q => absurd (nI_le (Nat.le_refl _) (by omega)) q⟩
    | succ d ih =>
      intro i hi N fN rN
      have ebi : bm n s i = s / 2 ^ i % 2 := by unfold bm; rw [if_pos (by omega)]
      have b2 : s / 2 ^ i % 2 < 2 := Nat.mod_lt _ (by omega)
      have f2 : sfN K n / 2 ^ i % 2 < 2 := Nat.mod_lt _ (by omega)
      have sfi : sfN K n / 2 ^ i % 2 = 1 ↔ K i = 2 := by
        rw [← tb_1, sfN_bit]
        exact ⟨fun q => q.2, fun q => ⟨by omega, q⟩⟩
      have ePW : pW (wQ K c) (bm n s) (i + 1) = pW (wQ K c) (bm n s) i * wQ K c i (s / 2 ^ i % 2) := by rw [pW, ebi]
      -- a peg that stays as it is
      have stay : s / 2 ^ i % 2 = 0 → rowOf (N 208) n W K V B (mix (i + 1) (sg K S (bm n s)) S) := fun q => row_of rN rfl (fun _ _ => rfl) (fun _ _ => rfl) (fun _ _ => rfl) (fun k hk => by
        by_cases e : k = i
        · subst e
          rw [mix_i]
          unfold mix
          rw [if_pos (by omega)]
          unfold sg
          rw [if_pos (by rw [ebi]; exact q)]
        · unfold mix
          by_cases e2 : k < i
          · rw [if_pos e2, if_pos (by omega)]
          · rw [if_neg e2, if_neg (by omega)])
      unfold lpX8_chance_169
      rw [show N (200 + 6) (0 : Int32).toNatClampNeg = nI n by show N 206 0 = nI n; rw [fN 206 (by decide)]; exact hn, bit_k (by omega) (by omega)]
      refine ⟨fun q => absurd q (nI_ge (by omega) (by omega)), fun _ => ⟨fun q => ?_, fun q => ?_⟩⟩
      · have q0 : s / 2 ^ i % 2 = 0 := by
          by_cases z : s / 2 ^ i % 2 = 1
          · exact absurd (by rw [z]; rfl) q
          · omega
        have nx := ih (i + 1) (by omega) N fN (stay q0)
        rw [ePW, q0] at nx
        unfold jnX8_chance_196
        rw [bit_k (by omega) (by omega)]
        refine ⟨fun z => ⟨fun _ => ?_, fun y => absurd rfl y⟩, fun z => ?_⟩
        · have hK : K i = 2 := sfi.1 (by
            by_cases y : sfN K n / 2 ^ i % 2 = 0
            · exact absurd (by rw [y]; rfl) z
            · omega)
          unfold jnX8_chance_229
          refine ⟨fun _ x39 e39 => ?_, fun y => absurd rfl y⟩
          rw [e39, nI_1, show (10 : Int32) = nI 10 from rfl, pk_sub hc, nI_l (by omega), lN_mul]
          unfold wQ at nx ⊢
          rw [if_pos hK, if_pos rfl] at nx
          exact nx
        · have z : nI (sfN K n / 2 ^ i % 2) = nI 0 := z
          rw [nI_eq (by omega) (by omega)] at z
          have hK : ¬ K i = 2 := fun y => by have := sfi.2 y; omega
          unfold jnX8_chance_229
          refine ⟨fun _ x39 e39 => ?_, fun y => absurd rfl y⟩
          rw [e39, nI_1, show (1 : Int64) = lN 1 from rfl, lN_mul]
          unfold wQ at nx ⊢
          rw [if_neg hK] at nx
          exact nx
      · have q : nI (s / 2 ^ i % 2) = nI 1 := q
        rw [nI_eq (by omega) (by omega)] at q
        have hK := hb i (by omega) q
        have z1 := sfi.2 hK
        unfold jnX8_chance_196
        rw [bit_k (by omega) (by omega), z1]
        refine ⟨fun _ => ⟨fun y => absurd y (by decide), fun _ => ?_⟩, fun y => absurd y (by decide)⟩
        unfold jnX8_chance_229
        refine ⟨fun y => absurd y (by decide), fun _ => p8_settles (n := n) (W := W) (K := K) (V := V) (B := B) (S := mix i (sg K S (bm n s)) S) (by omega) (by omega) h12 (by omega) rN (fun N2 f2 r2 x41 e41 => ?_)⟩
        rw [e41, nI_1, nI_l (by omega), lN_mul]
        have es : sg K S (bm n s) i = S i - S i / 2 := by
          unfold sg
          rw [if_neg (by rw [ebi]; omega)]
          unfold fSet
          rw [if_pos hK]
        rw [mix_i, ← es, mix_s] at r2
        have nx := ih (i + 1) (by omega) N2 (fun x hx => by rw [f2 x hx, fN x hx]) r2
        rw [ePW, q] at nx
        unfold wQ at nx ⊢
        rw [if_pos hK, if_neg (by omega)] at nx
        exact nx
  exact ⟨_, key n 0 (by omega) A (fun _ _ => rfl) (by rw [mix_0]; exact hr)⟩
def fs (n : Nat) (K V S : Nat → Int32) (v : Int32) (c s : Nat) : Nat := pW (wQ K c) (bm n s) n * pI n K V S v (bm n s) (n - 1)
theorem aR_ns {v : Int32} {c : Nat} : ns (fs n K V S v c) (sfN K n + 1) = aR n K V S v c := by
  have h := sfN_lt K n
  unfold aR
  rw [SU_ns]
  obtain ⟨d, hd⟩ : ∃ d, 2 ^ n = sfN K n + 1 + d := ⟨2 ^ n - (sfN K n + 1), by omega⟩
  rw [hd, ns_z (sfN K n + 1) d (fun j hj => ?_)]
  · rfl
  · show pW (wQ K c) (bm n (sfN K n + 1 + j)) n * _ = 0
    rw [sb_n (fun q => ?_), Nat.zero_mul]
    have := sb_le (by omega) q
    omega
theorem p8_sets {c v : Nat} {C : Int64 → Int32 → zM → Prop} (h1 : 1 ≤ n) (h12 : n ≤ 12) (hc : c ≤ 10) (hv : v ≤ 99) (hr : rowOf (M 206) n W K V B S) (h : ∀ x N, fr M N 208 → C (lN (aR n K V S (nI v) c)) x N) : ∃ fu, lpX8_chance_133 200 (nI v) (nI c) (nI (sfN K n)) C fu 0 0 M := by
  have hp : (2 : Nat) ^ n ≤ 2 ^ 12 := Nat.pow_le_pow_right (by omega) h12
  have hsf := sfN_lt K n
  have key : ∀ d s, s + d = sfN K n + 1 → ∀ N : zM, fr M N 208 → lpX8_chance_133 200 (nI v) (nI c) (nI (sfN K n)) C (d + 1) (lN (ns (fs n K V S (nI v) c) s)) (nI s) N := by
    intro d
    induction d with
    | zero =>
      intro s hs N fN
      obtain rfl : s = sfN K n + 1 := by omega
      unfold lpX8_chance_133
      rw [aR_ns]
      exact ⟨fun _ => h _ N fN, fun q => absurd (nI_lt (by omega) (by omega)) q⟩
    | succ d ih =>
      intro s hs N fN
      have eN : ns (fs n K V S (nI v) c) (s + 1) = ns (fs n K V S (nI v) c) s + pW (wQ K c) (bm n s) n * pI n K V S (nI v) (bm n s) (n - 1) := rfl
      have nx := fun N2 f2 => ih (s + 1) (by omega) N2 f2
      rw [eN, ← lN_add] at nx
      unfold lpX8_chance_133
      rw [sb_iff h12 (by omega)]
      refine ⟨fun q => absurd q (nI_nlt (by omega) (by omega)), fun _ => ⟨fun q x26 e26 => ?_, fun q => ?_⟩⟩
      · rw [e26, nI_1]
        have := nx N fN
        rw [sb_n q, Nat.zero_mul] at this
        rwa [show lN (ns (fs n K V S (nI v) c) s) + lN 0 = lN (ns (fs n K V S (nI v) c) s) from Int64.add_zero _] at this
      · refine p8_copies (a := 0) (b := 0) (by decide) (by omega) (by omega) (by omega) (by omega) ?_
        have r8 : rowOf (va_up N (200 + 8) (va_cpy (N (200 + 6)) (N (200 + 8)) 0 0 50) 208) n W K V B S := by
          rw [show va_up N (200 + 8) (va_cpy (N (200 + 6)) (N (200 + 8)) 0 0 50) 208 = va_cpy (N 206) (N 208) 0 0 50 from va_up_self _ _ _]
          exact row_cpy (by rw [fN 206 (by decide)]; exact hr) h12
        refine p8_set h12 ?_ hc (by omega) q r8 (fun x N2 f2 r2 => p8_worst (by omega) (by omega) r2.1 h12 h1 ?_)
        · rw [va_up_ne _ _ (by decide), fN 206 (by decide)]; exact hr.1
        · have f2' : fr M N2 208 := fun x hx => by rw [f2 x hx, va_up_ne _ _ hx, fN x hx]
          rw [show fWorst n (rK (N2 (200 + 8))) (rV (N2 (200 + 8))) (rS (N2 (200 + 8))) = fWorst n K V (sg K S (bm n s)) from fWorst_of r2.2.2.1 r2.2.2.2.1 r2.2.2.2.2.2]
          have pw := pI_w (n := n) (K := K) (V := V) (S := S) (β := bm n s) (v := nI v) (by rw [pn_n (by omega)]; omega)
          have := nx N2 f2'
          refine ⟨fun z x35 e35 => ?_, fun z x36 e36 => ?_⟩
          · rw [pw.1 z, Nat.mul_zero] at this
            rw [e35, nI_1]; exact this
          · rw [pw.2 z, Nat.mul_one] at this
            rw [e36, nI_1]; exact this
  exact ⟨_, key (sfN K n + 1) 0 (by omega) M (fun _ _ => rfl)⟩
end CR
