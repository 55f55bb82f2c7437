/-! THE WORLD BY ROLES. A role is a number; an object's parts lie at fixed numbers behind its own. ad: the address of a role; kd: its kind (0 .. 8 the classes, 10 longs, 11 booleans, 12 two rails, 13 eight rows, 14 the rails of the history, 1000 + n: n ints, 99: not made). M: what ints a role holds, J: what longs. -/
abbrev zM : Type := Nat → Nat → Int32
abbrev zL : Type := Nat → Nat → Int64
abbrev zY : Type := ClassId × ClassId × ClassId × ClassId × ClassId
def zw (x : Int32) (o : Nat) : Nat := if x = 0 then o + 1 else o + 2
def zv (ad kd : Nat → Nat) (Y : zY) (o : Nat) (u : Nat → Int32) (v : Nat → Int64) : va_E :=
  if kd o = 0 then .inr (0, [.ref (ad (o + 1)), .int (u 0)]) else
  if kd o = 1 then .inr (1, [.ref (ad (o + 1)), .int (u 0), .int (u 1)]) else
  if kd o = 2 then .inr (2, [.int (u 0), .int (u 1), .ref (ad (o + 1)), .ref (ad (o + 2)), .ref (ad (o + 3)), .ref (ad (o + 4))]) else
  if kd o = 3 then .inr (3, [.int (u 0), .int (u 1), .ref (ad (o + 1))]) else
  if kd o = 4 then .inr (4, [.ref (ad (o + 1)), .ref (ad (o + 6)), .ref (ad (o + 7)), .int (u 0), .int (u 1), .int (u 2), .int (u 3)]) else
  if kd o = 5 then .inr (5, [.long (v 0), .long (v 1), .ref (ad (zw (u 1) o)), .ref (ad (zw (u 2) o)), .int (u 0)]) else
  if kd o = 6 then .inr (6, [.ref (ad (o + 1)), .int (u 0), .int (u 1), .int (u 2)]) else
  if kd o = 7 then .inr (7, [.ref (ad (o + 1)), .ref (ad (o + 18)), .ref (ad (o + 20)), .ref (ad (o + 25)), .ref (ad (o + 30)), .ref (ad (o + 41)), .ref (ad (o + 163)), .ref (ad (o + 165)), va_rf (if kd (o + 168) = 4 then some (ad (o + 168)) else none), .int (u 0)]) else
  if kd o = 8 then .inr (8, [.ref (ad (o + 1)), .ref (ad (o + 2)), .ref (ad (o + 3)), .ref (ad (o + 4)), .int (u 0), .ref (ad (o + 5)), .int (u 1), .int (u 2), .int (u 3), .int (u 4), .int (u 5), .int (u 6), .int (u 7), .ref (ad (o + 6)), .ref (ad (o + 7)), .ref (ad (o + 8)), .ref (ad (o + 9)), .int (u 8), .ref (ad (o + 10)), .ref (ad (o + 11)), .ref (ad (o + 12)), .ref (ad (o + 13)), .int (u 9), .int (u 10), .ref (ad (o + 14)), .int (u 11)]) else
  if kd o = 10 then .inl (Y.2.1, 8, .inr (.inl v)) else
  if kd o = 11 then .inl (Y.2.2.1, 2, .inl u) else
  if kd o = 12 then .inl (Y.2.2.2.1, 2, .inr (.inr (.inr (.inr (fun i => if i < 2 then some (ad (o + 1 + 5 * i)) else none))))) else
  if kd o = 13 then .inl (Y.2.2.2.2, 8, .inr (.inr (.inr (.inr (fun i => if i < 8 then some (ad (o + 1 + 2 * i)) else none))))) else
  if kd o = 14 then .inl (Y.2.2.2.1, 24, .inr (.inr (.inr (.inr (fun i => if i < 24 ∧ kd (o + 1 + 5 * i) = 2 then some (ad (o + 1 + 5 * i)) else none))))) else
  .inl (Y.1, kd o - 1000, .inl u)
def zc (ad kd : Nat → Nat) (Y : zY) (M : zM) (J : zL) (o : Nat) : va_E := zv ad kd Y o (M o) (J o)
def zW (Y : zY) (ad kd : Nat → Nat) (RL : List Nat) (M : zM) (J : zL) : va_W := RL.map (fun o => (ad o, zc ad kd Y M J o))
def zT (Y : zY) : List (ClassId × FieldType) := [(Y.1, .int), (Y.2.1, .long), (Y.2.2.1, .boolean), (Y.2.2.2.1, .object "SlewRails$Rail"), (Y.2.2.2.2, .object "SlewRails$Row")]
/-- what is reached from an object that is there is there -/
def zCl (kd : Nat → Nat) : Prop :=
  (∀ o, kd o = 0 → kd (o + 1) = 1016) ∧ (∀ o, kd o = 1 → kd (o + 1) = 14) ∧
  (∀ o, kd o = 2 → kd (o + 1) = 1012 ∧ kd (o + 2) = 1012 ∧ kd (o + 3) = 1012 ∧ kd (o + 4) = 1012) ∧
  (∀ o, kd o = 3 → kd (o + 1) = 1040) ∧ (∀ o, kd o = 4 → kd (o + 1) = 2 ∧ kd (o + 6) = 5116 ∧ kd (o + 7) = 1012) ∧
  (∀ o, kd o = 5 → kd (o + 1) = 10 ∧ kd (o + 2) = 10) ∧ (∀ o, kd o = 6 → kd (o + 1) = 1120) ∧
  (∀ o, kd o = 7 → kd (o + 1) = 13 ∧ kd (o + 18) = 6 ∧ kd (o + 20) = 2 ∧ kd (o + 25) = 2 ∧ kd (o + 30) = 12 ∧ kd (o + 41) = 1 ∧ kd (o + 163) = 0 ∧ kd (o + 165) = 5) ∧
  (∀ o, kd o = 8 → kd (o + 1) = 1008 ∧ kd (o + 2) = 1008 ∧ kd (o + 3) = 1320 ∧ kd (o + 4) = 1040 ∧ kd (o + 5) = 1120 ∧ kd (o + 6) = 1050 ∧ kd (o + 7) = 1050 ∧ kd (o + 8) = 1050 ∧ kd (o + 9) = 2200 ∧ kd (o + 10) = 1100 ∧ kd (o + 11) = 11 ∧ kd (o + 12) = 5116 ∧ kd (o + 13) = 1012 ∧ kd (o + 14) = 1016) ∧
  (∀ o, kd o = 12 → ∀ i, i < 2 → kd (o + 1 + 5 * i) = 2) ∧ (∀ o, kd o = 13 → ∀ i, i < 8 → kd (o + 1 + 2 * i) = 3) ∧
  (∀ o, kd o = 14 → ∀ i, i < 24 → (kd (o + 1 + 5 * i) = 99 ∧ kd (o + 1 + 5 * i + 1) = 99 ∧ kd (o + 1 + 5 * i + 2) = 99 ∧ kd (o + 1 + 5 * i + 3) = 99 ∧ kd (o + 1 + 5 * i + 4) = 99) ∨ kd (o + 1 + 5 * i) = 2) ∧
  (∀ o, kd o = 7 → (∀ i, i < 8 → kd (o + 168 + i) = 99) ∨ kd (o + 168) = 4) ∧ (∀ o, kd o = 7 → o = 0) ∧ (∀ o, kd o = 14 → o = 42)
theorem zk_0_1 {kd : Nat → Nat} {o : Nat} (h : zCl kd) (ho : kd o = 0) : kd (o + 1) = 1016 := (h.1 o ho)
theorem zk_1_1 {kd : Nat → Nat} {o : Nat} (h : zCl kd) (ho : kd o = 1) : kd (o + 1) = 14 := (h.2.1 o ho)
theorem zk_2_1 {kd : Nat → Nat} {o : Nat} (h : zCl kd) (ho : kd o = 2) : kd (o + 1) = 1012 := (h.2.2.1 o ho).1
theorem zk_2_2 {kd : Nat → Nat} {o : Nat} (h : zCl kd) (ho : kd o = 2) : kd (o + 2) = 1012 := (h.2.2.1 o ho).2.1
theorem zk_2_3 {kd : Nat → Nat} {o : Nat} (h : zCl kd) (ho : kd o = 2) : kd (o + 3) = 1012 := (h.2.2.1 o ho).2.2.1
theorem zk_2_4 {kd : Nat → Nat} {o : Nat} (h : zCl kd) (ho : kd o = 2) : kd (o + 4) = 1012 := (h.2.2.1 o ho).2.2.2
theorem zk_3_1 {kd : Nat → Nat} {o : Nat} (h : zCl kd) (ho : kd o = 3) : kd (o + 1) = 1040 := (h.2.2.2.1 o ho)
theorem zk_4_1 {kd : Nat → Nat} {o : Nat} (h : zCl kd) (ho : kd o = 4) : kd (o + 1) = 2 := (h.2.2.2.2.1 o ho).1
theorem zk_4_6 {kd : Nat → Nat} {o : Nat} (h : zCl kd) (ho : kd o = 4) : kd (o + 6) = 5116 := (h.2.2.2.2.1 o ho).2.1
theorem zk_4_7 {kd : Nat → Nat} {o : Nat} (h : zCl kd) (ho : kd o = 4) : kd (o + 7) = 1012 := (h.2.2.2.2.1 o ho).2.2
theorem zk_5_1 {kd : Nat → Nat} {o : Nat} (h : zCl kd) (ho : kd o = 5) : kd (o + 1) = 10 := (h.2.2.2.2.2.1 o ho).1
theorem zk_5_2 {kd : Nat → Nat} {o : Nat} (h : zCl kd) (ho : kd o = 5) : kd (o + 2) = 10 := (h.2.2.2.2.2.1 o ho).2
theorem zk_6_1 {kd : Nat → Nat} {o : Nat} (h : zCl kd) (ho : kd o = 6) : kd (o + 1) = 1120 := (h.2.2.2.2.2.2.1 o ho)
theorem zk_7_1 {kd : Nat → Nat} {o : Nat} (h : zCl kd) (ho : kd o = 7) : kd (o + 1) = 13 := (h.2.2.2.2.2.2.2.1 o ho).1
theorem zk_7_18 {kd : Nat → Nat} {o : Nat} (h : zCl kd) (ho : kd o = 7) : kd (o + 18) = 6 := (h.2.2.2.2.2.2.2.1 o ho).2.1
theorem zk_7_20 {kd : Nat → Nat} {o : Nat} (h : zCl kd) (ho : kd o = 7) : kd (o + 20) = 2 := (h.2.2.2.2.2.2.2.1 o ho).2.2.1
theorem zk_7_25 {kd : Nat → Nat} {o : Nat} (h : zCl kd) (ho : kd o = 7) : kd (o + 25) = 2 := (h.2.2.2.2.2.2.2.1 o ho).2.2.2.1
theorem zk_7_30 {kd : Nat → Nat} {o : Nat} (h : zCl kd) (ho : kd o = 7) : kd (o + 30) = 12 := (h.2.2.2.2.2.2.2.1 o ho).2.2.2.2.1
theorem zk_7_41 {kd : Nat → Nat} {o : Nat} (h : zCl kd) (ho : kd o = 7) : kd (o + 41) = 1 := (h.2.2.2.2.2.2.2.1 o ho).2.2.2.2.2.1
theorem zk_7_163 {kd : Nat → Nat} {o : Nat} (h : zCl kd) (ho : kd o = 7) : kd (o + 163) = 0 := (h.2.2.2.2.2.2.2.1 o ho).2.2.2.2.2.2.1
theorem zk_7_165 {kd : Nat → Nat} {o : Nat} (h : zCl kd) (ho : kd o = 7) : kd (o + 165) = 5 := (h.2.2.2.2.2.2.2.1 o ho).2.2.2.2.2.2.2
theorem zk_8_1 {kd : Nat → Nat} {o : Nat} (h : zCl kd) (ho : kd o = 8) : kd (o + 1) = 1008 := (h.2.2.2.2.2.2.2.2.1 o ho).1
theorem zk_8_2 {kd : Nat → Nat} {o : Nat} (h : zCl kd) (ho : kd o = 8) : kd (o + 2) = 1008 := (h.2.2.2.2.2.2.2.2.1 o ho).2.1
theorem zk_8_3 {kd : Nat → Nat} {o : Nat} (h : zCl kd) (ho : kd o = 8) : kd (o + 3) = 1320 := (h.2.2.2.2.2.2.2.2.1 o ho).2.2.1
theorem zk_8_4 {kd : Nat → Nat} {o : Nat} (h : zCl kd) (ho : kd o = 8) : kd (o + 4) = 1040 := (h.2.2.2.2.2.2.2.2.1 o ho).2.2.2.1
theorem zk_8_5 {kd : Nat → Nat} {o : Nat} (h : zCl kd) (ho : kd o = 8) : kd (o + 5) = 1120 := (h.2.2.2.2.2.2.2.2.1 o ho).2.2.2.2.1
theorem zk_8_6 {kd : Nat → Nat} {o : Nat} (h : zCl kd) (ho : kd o = 8) : kd (o + 6) = 1050 := (h.2.2.2.2.2.2.2.2.1 o ho).2.2.2.2.2.1
theorem zk_8_7 {kd : Nat → Nat} {o : Nat} (h : zCl kd) (ho : kd o = 8) : kd (o + 7) = 1050 := (h.2.2.2.2.2.2.2.2.1 o ho).2.2.2.2.2.2.1
theorem zk_8_8 {kd : Nat → Nat} {o : Nat} (h : zCl kd) (ho : kd o = 8) : kd (o + 8) = 1050 := (h.2.2.2.2.2.2.2.2.1 o ho).2.2.2.2.2.2.2.1
theorem zk_8_9 {kd : Nat → Nat} {o : Nat} (h : zCl kd) (ho : kd o = 8) : kd (o + 9) = 2200 := (h.2.2.2.2.2.2.2.2.1 o ho).2.2.2.2.2.2.2.2.1
theorem zk_8_10 {kd : Nat → Nat} {o : Nat} (h : zCl kd) (ho : kd o = 8) : kd (o + 10) = 1100 := (h.2.2.2.2.2.2.2.2.1 o ho).2.2.2.2.2.2.2.2.2.1
theorem zk_8_11 {kd : Nat → Nat} {o : Nat} (h : zCl kd) (ho : kd o = 8) : kd (o + 11) = 11 := (h.2.2.2.2.2.2.2.2.1 o ho).2.2.2.2.2.2.2.2.2.2.1
theorem zk_8_12 {kd : Nat → Nat} {o : Nat} (h : zCl kd) (ho : kd o = 8) : kd (o + 12) = 5116 := (h.2.2.2.2.2.2.2.2.1 o ho).2.2.2.2.2.2.2.2.2.2.2.1
theorem zk_8_13 {kd : Nat → Nat} {o : Nat} (h : zCl kd) (ho : kd o = 8) : kd (o + 13) = 1012 := (h.2.2.2.2.2.2.2.2.1 o ho).2.2.2.2.2.2.2.2.2.2.2.2.1
theorem zk_8_14 {kd : Nat → Nat} {o : Nat} (h : zCl kd) (ho : kd o = 8) : kd (o + 14) = 1016 := (h.2.2.2.2.2.2.2.2.1 o ho).2.2.2.2.2.2.2.2.2.2.2.2.2
theorem zk_12 {kd : Nat → Nat} {o : Nat} (h : zCl kd) (ho : kd o = 12) {i : Nat} (hi : i < 2) : kd (o + 1 + 5 * i) = 2 := h.2.2.2.2.2.2.2.2.2.1 o ho i hi
theorem zk_13 {kd : Nat → Nat} {o : Nat} (h : zCl kd) (ho : kd o = 13) {i : Nat} (hi : i < 8) : kd (o + 1 + 2 * i) = 3 := h.2.2.2.2.2.2.2.2.2.2.1 o ho i hi
theorem zk_14 {kd : Nat → Nat} {o : Nat} (h : zCl kd) (ho : kd o = 14) {i : Nat} (hi : i < 24) : (kd (o + 1 + 5 * i) = 99 ∧ kd (o + 1 + 5 * i + 1) = 99 ∧ kd (o + 1 + 5 * i + 2) = 99 ∧ kd (o + 1 + 5 * i + 3) = 99 ∧ kd (o + 1 + 5 * i + 4) = 99) ∨ kd (o + 1 + 5 * i) = 2 := h.2.2.2.2.2.2.2.2.2.2.2.1 o ho i hi
theorem zk_7s {kd : Nat → Nat} {o : Nat} (h : zCl kd) (ho : kd o = 7) : (∀ i, i < 8 → kd (o + 168 + i) = 99) ∨ kd (o + 168) = 4 := h.2.2.2.2.2.2.2.2.2.2.2.2.1 o ho
theorem zk_7z {kd : Nat → Nat} {o : Nat} (h : zCl kd) (ho : kd o = 7) : o = 0 := h.2.2.2.2.2.2.2.2.2.2.2.2.2.1 o ho
theorem zk_14z {kd : Nat → Nat} {o : Nat} (h : zCl kd) (ho : kd o = 14) : o = 42 := h.2.2.2.2.2.2.2.2.2.2.2.2.2.2 o ho
theorem zk_5_w {kd : Nat → Nat} {o : Nat} (h : zCl kd) (ho : kd o = 5) (x : Int32) : kd (zw x o) = 10 := by unfold zw; split <;> first | exact zk_5_1 h ho | exact zk_5_2 h ho
theorem zc_other {ad kd : Nat → Nat} {Y : zY} {M M' : zM} {J J' : zL} {o : Nat} (hM : M' o = M o) (hJ : J' o = J o) : zc ad kd Y M' J' o = zc ad kd Y M J o := by unfold zc; rw [hM, hJ]
theorem zW_get {Y : zY} {ad kd : Nat → Nat} {RL : List Nat} {M : zM} {J : zL} {o : Nat} (h : o ∈ RL) : ∃ k : Nat, (zW Y ad kd RL M J)[k]? = some (ad o, zc ad kd Y M J o) ∧ RL[k]? = some o := by
  obtain ⟨k, hk⟩ := List.getElem?_of_mem h
  exact ⟨k, by simp [zW, hk], hk⟩
theorem zW_set {Y : zY} {ad kd : Nat → Nat} {RL : List Nat} {M M' : zM} {J J' : zL} {A : Nat → Prop} {o k : Nat} {e : va_E} (hD : va_D A (zW Y ad kd RL M J)) (hk : RL[k]? = some o) (he : zc ad kd Y M' J' o = e) (ho : ∀ x, x ≠ o → zc ad kd Y M' J' x = zc ad kd Y M J x) : (zW Y ad kd RL M J).set k (ad o, e) = zW Y ad kd RL M' J' := by
  have hkl : k < RL.length := (List.getElem?_eq_some_iff.mp hk).1
  apply List.ext_getElem?
  intro i
  rw [List.getElem?_set]
  by_cases hi : k = i
  · subst hi
    have hko : RL[k] = o := (List.getElem?_eq_some_iff.mp hk).2
    simp [zW, hkl, hko, he]
  · rw [if_neg hi]
    cases hx : RL[i]? with
    | none => simp [zW, hx]
    | some x =>
      have hne : x ≠ o := fun e => hi (by
        subst e
        exact hD.1 k i (ad x, zc ad kd Y M J x) (ad x, zc ad kd Y M J x) (by simp [zW, hk]) (by simp [zW, hx]) rfl)
      simp [zW, hx, ho x hne]
theorem zD_any {Y : zY} {ad kd : Nat → Nat} {RL : List Nat} {M M' : zM} {J J' : zL} {A : Nat → Prop} (h : va_D A (zW Y ad kd RL M J)) : va_D A (zW Y ad kd RL M' J') := by
  have key : ∀ (i : Nat) (q : Nat × va_E), (zW Y ad kd RL M' J')[i]? = some q → ∃ q2, (zW Y ad kd RL M J)[i]? = some q2 ∧ q2.1 = q.1 := by
    intro i q hq
    simp only [zW, List.getElem?_map, Option.map_eq_some_iff] at hq ⊢
    obtain ⟨o, ho, rfl⟩ := hq
    exact ⟨_, ⟨o, ho, rfl⟩, rfl⟩
  refine ⟨fun i j p q hi hj hpq => ?_, fun i q hi => ?_⟩
  · obtain ⟨p2, hp2, ep⟩ := key i p hi
    obtain ⟨q2, hq2, eq⟩ := key j q hj
    exact h.1 i j p2 q2 hp2 hq2 (by rw [ep, eq, hpq])
  · obtain ⟨q2, hq2, eq⟩ := key i q hi
    rw [← eq]; exact h.2 i q2 hq2
def zalso : Nat → Int32 := fun k => if k = 0 then -1 else if k = 1 then 0 else if k = 2 then 1 else if k = 3 then 1 else if k = 4 then 0 else 4
def zsizes : Nat → Int32 := fun k => if k = 0 then 10 else if k = 1 then 11 else if k = 2 then 12 else if k = 3 then 0 else if k = 4 then 13 else 14
def zmarks : Nat → Int32 := fun k => if k = 0 then 20 else if k = 1 then 21 else if k = 2 then 24 else if k = 3 then 22 else if k = 4 then 23 else 0
/-- what the tables say beside the words -/
def zN (U : State) : Prop := va_Nw (.methodLinkNest RX7 17 yX6_init RX7) U ∧ va_Nw (.methodLinkNest RX7 230 yX4_init RX7) U ∧ va_Nw (.methodLinkNest RX7 24 yX2_init RX7) U ∧ va_Nw (.methodLinkNest RX7 38 yX1_init RX7) U ∧ va_Nw (.methodLinkNest RX7 45 yX0_init RX7) U ∧ va_Nw (.methodLinkNest RX7 52 yX5_init RX7) U ∧ va_Nw (.methodLinkNest RX7 65 yX3_init RX7) U ∧ va_Nw (.methodLinkNest RX1 24 yX2_init RX7) U ∧ va_Nw (.methodLinkNest RX4 11 yX2_init RX7) U ∧ va_Nw (.fieldLinkNest RX0 28 RX7 "ALSO" "[I" RX7) U ∧ va_AO RX2 U ∧ va_AO RX3 U
theorem zN.warm {s U : State} (hW : s.WarmedH U.vm) (h : zN s) : zN U := ⟨h.1.warmM hW, h.2.1.warmM hW, h.2.2.1.warmM hW, h.2.2.2.1.warmM hW, h.2.2.2.2.1.warmM hW, h.2.2.2.2.2.1.warmM hW, h.2.2.2.2.2.2.1.warmM hW, h.2.2.2.2.2.2.2.1.warmM hW, h.2.2.2.2.2.2.2.2.1.warmM hW, h.2.2.2.2.2.2.2.2.2.1.warmF hW, h.2.2.2.2.2.2.2.2.2.2.1.moved hW.alike, h.2.2.2.2.2.2.2.2.2.2.2.moved hW.alike⟩
theorem zN.same {s U : State} (e : s.vm = U.vm) (h : zN s) : zN U := ⟨h.1.same rfl e, h.2.1.same rfl e, h.2.2.1.same rfl e, h.2.2.2.1.same rfl e, h.2.2.2.2.1.same rfl e, h.2.2.2.2.2.1.same rfl e, h.2.2.2.2.2.2.1.same rfl e, h.2.2.2.2.2.2.2.1.same rfl e, h.2.2.2.2.2.2.2.2.1.same rfl e, h.2.2.2.2.2.2.2.2.2.1.same rfl e, h.2.2.2.2.2.2.2.2.2.2.1.moved (by rw [e]; exact Vm.Alike.refl _), h.2.2.2.2.2.2.2.2.2.2.2.moved (by rw [e]; exact Vm.Alike.refl _)⟩
/-- the three rows of constants -/
def zX (A : Nat → Prop) (U : State) (H : Heap) : Prop := ∃ t0 t1 t2 : Nat, va_Z RX7 "ALSO" "[I" (.ref t0) A U H ∧ va_T .int t0 6 (fun k => .int (zalso k)) A U H ∧ va_Z RX0 "SIZE_BODIES" "[I" (.ref t1) A U H ∧ va_T .int t1 6 (fun k => .int (zsizes k)) A U H ∧ va_Z RX0 "MARK_BODIES" "[I" (.ref t2) A U H ∧ va_T .int t2 6 (fun k => .int (zmarks k)) A U H
theorem zX.moved {A : Nat → Prop} {u U : State} {H : Heap} (hvm : u.vm.Alike U.vm) (h : zX A u H) : zX A U H := by
  obtain ⟨t0, t1, t2, a, b, c, d, e, f⟩ := h
  exact ⟨t0, t1, t2, a.moved hvm, b.moved hvm, c.moved hvm, d.moved hvm, e.moved hvm, f.moved hvm⟩
theorem zX.kept {A : Nat → Prop} {U : State} {H H1 : Heap} (h : zX A U H) (hq : ∀ a : Nat, a < H.size → ¬ A a → H1[a]? = H[a]?) : zX A U H1 := by
  obtain ⟨t0, t1, t2, a, b, c, d, e, f⟩ := h
  exact ⟨t0, t1, t2, a.kept hq, b.kept hq, c.kept hq, d.kept hq, e.kept hq, f.kept hq⟩
theorem zX.narrow {A B : Nat → Prop} {U : State} {H : Heap} (h : zX A U H) (hAB : ∀ q, B q → A q) : zX B U H := by
  obtain ⟨t0, t1, t2, a, b, c, d, e, f⟩ := h
  exact ⟨t0, t1, t2, a.narrow hAB, b.narrow hAB, c.narrow hAB, d.narrow hAB, e.narrow hAB, f.narrow hAB⟩
/-- what a role that isn't made yet will hold when it is -/
def zI (o : Nat) : Nat → Int32 := fun k => if o = 168 ∧ k = 3 then -1 else 0
def zZ (kd : Nat → Nat) (M : zM) (J : zL) : Prop := ∀ o, kd o = 99 → M o = zI o ∧ J o = fun _ => 0
theorem zZ.upM {kd : Nat → Nat} {M : zM} {J : zL} {o : Nat} {f : Nat → Int32} (h : zZ kd M J) (ho : kd o ≠ 99) : zZ kd (va_up M o f) J := fun x hx => ⟨by rw [va_up_ne _ _ (fun e => ho (by rw [← e]; exact hx))]; exact (h x hx).1, (h x hx).2⟩
theorem zZ.upJ {kd : Nat → Nat} {M : zM} {J : zL} {o : Nat} {f : Nat → Int64} (h : zZ kd M J) (ho : kd o ≠ 99) : zZ kd M (va_up J o f) := fun x hx => ⟨(h x hx).1, by rw [va_up_ne _ _ (fun e => ho (by rw [← e]; exact hx))]; exact (h x hx).2⟩
/-- the world at a place of a walk -/
def zH (D : va_G) (Y : zY) (ad kd : Nat → Nat) (RL : List Nat) (M : zM) (J : zL) (A : Nat → Prop) (H0 H : Heap) (locs : List Loc) (s : State) : Prop :=
  va_P D vwCl (zW Y ad kd RL M J) H ∧ va_K D vwCl (zT Y) s ∧ va_D A (zW Y ad kd RL M J) ∧ va_S A H0 H locs ∧ (∀ q, H0.size ≤ q → A q) ∧ zCl kd ∧ (∀ o, kd o ≠ 99 ↔ o ∈ RL) ∧ zZ kd M J ∧ zN s ∧ zX A s H0
/-- the world as a contract's start has it -/
def zP (D : va_G) (Y : zY) (ad kd : Nat → Nat) (RL : List Nat) (M : zM) (J : zL) (sz : Nat) (U : State) : Prop :=
  U.heap.size = sz ∧ va_P D vwCl (zW Y ad kd RL M J) U.heap ∧ va_K D vwCl (zT Y) U ∧ va_D (fun _ => True) (zW Y ad kd RL M J) ∧ zCl kd ∧ (∀ o, kd o ≠ 99 ↔ o ∈ RL) ∧ zZ kd M J ∧ zN U ∧ zX (va_A (zW Y ad kd RL M J) sz) U U.heap
def zB (D : va_G) (Y : zY) (ad kd : Nat → Nat) (RL : List Nat) : zM × zL → State → Prop := fun u t => va_P D vwCl (zW Y ad kd RL u.1 u.2) t.heap ∧ zZ kd u.1 u.2
/-- more is made, what is there stays -/
def zE (ad kd ad' kd' : Nat → Nat) : Prop := ∀ o, kd o ≠ 99 → kd' o = kd o ∧ ad' o = ad o
theorem zE.rf {ad kd : Nat → Nat} : zE ad kd ad kd := fun _ _ => ⟨rfl, rfl⟩
theorem zE.tr {ad kd ad1 kd1 ad2 kd2 : Nat → Nat} (h : zE ad kd ad1 kd1) (h2 : zE ad1 kd1 ad2 kd2) : zE ad kd ad2 kd2 := fun o ho => ⟨(h2 o (by rw [(h o ho).1]; exact ho)).1.trans (h o ho).1, (h2 o (by rw [(h o ho).1]; exact ho)).2.trans (h o ho).2⟩
def zBa (D : va_G) (Y : zY) (ad kd : Nat → Nat) (A : Nat → Prop) : zM × zL → State → Prop := fun u t => ∃ (ad' kd' : Nat → Nat) (RL' : List Nat), va_P D vwCl (zW Y ad' kd' RL' u.1 u.2) t.heap ∧ va_D A (zW Y ad' kd' RL' u.1 u.2) ∧ zCl kd' ∧ (∀ o, kd' o ≠ 99 ↔ o ∈ RL') ∧ zZ kd' u.1 u.2 ∧ zE ad kd ad' kd'
def zqi (post : Int32 → zM → zL → Prop) : Int32 → zM × zL → Prop := fun r u => post r u.1 u.2
def zql (post : Int64 → zM → zL → Prop) : Int64 → zM × zL → Prop := fun r u => post r u.1 u.2
def zqv (post : zM → zL → Prop) : zM × zL → Prop := fun u => post u.1 u.2
/-- contracts of methods that make nothing: answer an int, a long, nothing -/
def zCi (l : Launch) (y : MethodName) (ws : List Cond) (rm : Room) (av : List Value) (D : va_G) (Y : zY) (ad kd : Nat → Nat) (RL : List Nat) (M : zM) (J : zL) (post : Int32 → zM → zL → Prop) : Prop :=
  ∀ sz, Met l y ws rm (va_Pc av (zP D Y ad kd RL M J sz)) (va_Qi (zqi post) (zB D Y ad kd RL) (va_A (zW Y ad kd RL M J) sz)) 0 0 (va_A (zW Y ad kd RL M J) sz)
def zCl_ (l : Launch) (y : MethodName) (ws : List Cond) (rm : Room) (av : List Value) (D : va_G) (Y : zY) (ad kd : Nat → Nat) (RL : List Nat) (M : zM) (J : zL) (post : Int64 → zM → zL → Prop) : Prop :=
  ∀ sz, Met l y ws rm (va_Pc av (zP D Y ad kd RL M J sz)) (va_Ql (zql post) (zB D Y ad kd RL) (va_A (zW Y ad kd RL M J) sz)) 0 0 (va_A (zW Y ad kd RL M J) sz)
def zCv (l : Launch) (y : MethodName) (ws : List Cond) (rm : Room) (av : List Value) (D : va_G) (Y : zY) (ad kd : Nat → Nat) (RL : List Nat) (M : zM) (J : zL) (post : zM → zL → Prop) : Prop :=
  ∀ sz, Met l y ws rm (va_Pc av (zP D Y ad kd RL M J sz)) (va_Qv (zqv post) (zB D Y ad kd RL) (va_A (zW Y ad kd RL M J) sz)) 0 0 (va_A (zW Y ad kd RL M J) sz)
/-- contracts of methods that may make something -/
def zCia (l : Launch) (y : MethodName) (ws : List Cond) (rm : Room) (av : List Value) (D : va_G) (Y : zY) (ad kd : Nat → Nat) (RL : List Nat) (M : zM) (J : zL) (mc ms : Nat) (post : Int32 → zM → zL → Prop) : Prop :=
  ∀ sz, Met l y ws rm (va_Pc av (zP D Y ad kd RL M J sz)) (va_Qi (zqi post) (zBa D Y ad kd (va_A (zW Y ad kd RL M J) sz)) (va_A (zW Y ad kd RL M J) sz)) mc ms (va_A (zW Y ad kd RL M J) sz)
def zCva (l : Launch) (y : MethodName) (ws : List Cond) (rm : Room) (av : List Value) (D : va_G) (Y : zY) (ad kd : Nat → Nat) (RL : List Nat) (M : zM) (J : zL) (mc ms : Nat) (post : zM → zL → Prop) : Prop :=
  ∀ sz, Met l y ws rm (va_Pc av (zP D Y ad kd RL M J sz)) (va_Qv (zqv post) (zBa D Y ad kd (va_A (zW Y ad kd RL M J) sz)) (va_A (zW Y ad kd RL M J) sz)) mc ms (va_A (zW Y ad kd RL M J) sz)
theorem zP_blind {D : va_G} {Y : zY} {ad kd : Nat → Nat} {RL : List Nat} {M : zM} {J : zL} {sz : Nat} {av : List Value} : FrameBlind (va_Pc av (zP D Y ad kd RL M J sz)) := fun a U g mk q => by
  obtain ⟨q0, q1, qP, qK, qD, qC, qR, qZ, qN, qX⟩ := q
  exact ⟨q0, q1, qP, va_K.moved (u := U) (U := U.calling g mk a) (Vm.Alike.refl U.vm) qK, qD, qC, qR, qZ, zN.same (s := U) (U := U.calling g mk a) rfl qN, zX.moved (u := U) (U := U.calling g mk a) (Vm.Alike.refl U.vm) qX⟩
theorem z_obj {ad kd : Nat → Nat} {Y : zY} {M : zM} {J : zL} {o ci : Nat} (h : kd o = ci) (hc : ci < 9) : ∃ fs, zc ad kd Y M J o = .inr (ci, fs) := by
  unfold zc zv
  rw [h]
  rcases (show ci = 0 ∨ ci = 1 ∨ ci = 2 ∨ ci = 3 ∨ ci = 4 ∨ ci = 5 ∨ ci = 6 ∨ ci = 7 ∨ ci = 8 by omega) with rfl | rfl | rfl | rfl | rfl | rfl | rfl | rfl | rfl <;> exact ⟨_, rfl⟩
theorem z_lt {i : Int32} {n : Nat} (h : vp_in i n) : i.toNatClampNeg < n := Nat.lt_of_not_le (fun q => h (Or.inr q))
abbrev zabs (x : Int32) : Int32 := if 0 ≤ x then x else 0 - x
abbrev zmax (x y : Int32) : Int32 := if x < y then y else x
abbrev zmin (x y : Int32) : Int32 := if y < x then y else x
section ZR
variable {p : Program} {l : Launch} {e : Env} {R : Room} {s : State} {m : MethodId} {args : Array Value} {below : List Frame} {meth : Method} {c : Code} {H : Heap} {locs : List Loc} {cells slots : Nat} {Q : State → Prop}
variable {cc : ByteArray} {pc : Nat} {ls : Array Slot} {rest : List Value} {D : va_G} {Y : zY} {ad kd : Nat → Nat} {RL : List Nat} {M : zM} {J : zL} {A : Nat → Prop} {H0 : Heap} {own : String} {index o : Nat}
theorem zH.next {M' : zM} {J' : zL} {H1 : Heap} {locs1 : List Loc} (hw : zH D Y ad kd RL M J A H0 H locs s) (hP : va_P D vwCl (zW Y ad kd RL M' J') H1) (hS : va_S A H0 H1 locs1) (hZ : zZ kd M' J') : zH D Y ad kd RL M' J' A H0 H1 locs1 s :=
  ⟨hP, hw.2.1, zD_any hw.2.2.1, hS, hw.2.2.2.2.1, hw.2.2.2.2.2.1, hw.2.2.2.2.2.2.1, hZ, hw.2.2.2.2.2.2.2.2⟩
/-- from a contract's start to the walk -/
theorem z_meti {y : MethodName} {ws ws' : List Cond} {rm : Room} {maxL : Nat} {ret : Option FieldType} {av : List Value} {post : Int32 → zM → zL → Prop} (hy : plainName y.cls = true) (hw : ws = Cond.code y cc maxL ret :: ws') (hn : (lg_sl av).length ≤ maxL)
    (body : ∀ (p : Program) (e : Env) (s : State) (m : MethodId) (below : List Frame) (meth : Method) (c : Code) (ls : Array Slot) (A : Nat → Prop) (ar : Array Value) (QE : State → Prop), QE = MQ below (va_Qi (zqi post) (zB D Y ad kd RL) A) ar s 0 0 A → p.tables.exec = Jvm.exec → c.code = cc → meth.sig.returnType = ret → c.maxLocals = maxL → s.vm.findClass y.cls = some m.cls → (∀ w ∈ ws, w.before ar s = true) → meth.locks = false → zH D Y ad kd RL M J A s.heap s.heap [] s → lv_has ls maxL (lv_args 0 av) →
      W p l e rm s m ar below meth c s.heap [] 0 0 QE (F0 m 0 ls [])) : zCi l y ws rm av D Y ad kd RL M J post := by
  intro sz
  refine Met.ofW (cc := cc) (maxL := maxL) (ret := ret) hy hw ?_
  intro p e s m args below meth c s₁ B hml hv
  obtain ⟨rfl, hsz, hP, hK, hD0, hC, hR, hZ, hN, hX⟩ := hv
  subst hsz
  have hl := lv_entry av (n := maxL) hn
  rw [lg_entry_eq]
  exact body p e s m below meth c _ _ _ _ rfl B.exec B.bytes B.returns hml (findClass_of_methodNamed B.named) (atoms_spec (ws := ws) B.pre) B.notSynchronized ⟨hP, hK, hD0.self, va_S.rf, fun q h => Or.inr h, hC, hR, hZ, hN, hX⟩ hl
theorem z_metl {y : MethodName} {ws ws' : List Cond} {rm : Room} {maxL : Nat} {ret : Option FieldType} {av : List Value} {post : Int64 → zM → zL → Prop} (hy : plainName y.cls = true) (hw : ws = Cond.code y cc maxL ret :: ws') (hn : (lg_sl av).length ≤ maxL)
    (body : ∀ (p : Program) (e : Env) (s : State) (m : MethodId) (below : List Frame) (meth : Method) (c : Code) (ls : Array Slot) (A : Nat → Prop) (ar : Array Value) (QE : State → Prop), QE = MQ below (va_Ql (zql post) (zB D Y ad kd RL) A) ar s 0 0 A → p.tables.exec = Jvm.exec → c.code = cc → meth.sig.returnType = ret → c.maxLocals = maxL → s.vm.findClass y.cls = some m.cls → (∀ w ∈ ws, w.before ar s = true) → meth.locks = false → zH D Y ad kd RL M J A s.heap s.heap [] s → lv_has ls maxL (lv_args 0 av) →
      W p l e rm s m ar below meth c s.heap [] 0 0 QE (F0 m 0 ls [])) : zCl_ l y ws rm av D Y ad kd RL M J post := by
  intro sz
  refine Met.ofW (cc := cc) (maxL := maxL) (ret := ret) hy hw ?_
  intro p e s m args below meth c s₁ B hml hv
  obtain ⟨rfl, hsz, hP, hK, hD0, hC, hR, hZ, hN, hX⟩ := hv
  subst hsz
  have hl := lv_entry av (n := maxL) hn
  rw [lg_entry_eq]
  exact body p e s m below meth c _ _ _ _ rfl B.exec B.bytes B.returns hml (findClass_of_methodNamed B.named) (atoms_spec (ws := ws) B.pre) B.notSynchronized ⟨hP, hK, hD0.self, va_S.rf, fun q h => Or.inr h, hC, hR, hZ, hN, hX⟩ hl
theorem z_metv {y : MethodName} {ws ws' : List Cond} {rm : Room} {maxL : Nat} {ret : Option FieldType} {av : List Value} {post : zM → zL → Prop} (hy : plainName y.cls = true) (hw : ws = Cond.code y cc maxL ret :: ws') (hn : (lg_sl av).length ≤ maxL)
    (body : ∀ (p : Program) (e : Env) (s : State) (m : MethodId) (below : List Frame) (meth : Method) (c : Code) (ls : Array Slot) (A : Nat → Prop) (ar : Array Value) (QE : State → Prop), QE = MQ below (va_Qv (zqv post) (zB D Y ad kd RL) A) ar s 0 0 A → p.tables.exec = Jvm.exec → c.code = cc → meth.sig.returnType = ret → c.maxLocals = maxL → s.vm.findClass y.cls = some m.cls → (∀ w ∈ ws, w.before ar s = true) → meth.locks = false → zH D Y ad kd RL M J A s.heap s.heap [] s → lv_has ls maxL (lv_args 0 av) →
      W p l e rm s m ar below meth c s.heap [] 0 0 QE (F0 m 0 ls [])) : zCv l y ws rm av D Y ad kd RL M J post := by
  intro sz
  refine Met.ofW (cc := cc) (maxL := maxL) (ret := ret) hy hw ?_
  intro p e s m args below meth c s₁ B hml hv
  obtain ⟨rfl, hsz, hP, hK, hD0, hC, hR, hZ, hN, hX⟩ := hv
  subst hsz
  have hl := lv_entry av (n := maxL) hn
  rw [lg_entry_eq]
  exact body p e s m below meth c _ _ _ _ rfl B.exec B.bytes B.returns hml (findClass_of_methodNamed B.named) (atoms_spec (ws := ws) B.pre) B.notSynchronized ⟨hP, hK, hD0.self, va_S.rf, fun q h => Or.inr h, hC, hR, hZ, hN, hX⟩ hl
theorem z_free (hw : zH D Y ad kd RL M J A H0 H locs s) : ∀ q, va_A (zW Y ad kd RL M J) H.size q → A q := by
  intro q h
  rcases h with ⟨k, e, hk⟩ | h
  · exact hw.2.2.1.2 k _ hk
  · exact hw.2.2.2.2.1 q (Nat.le_trans hw.2.2.2.1.1 h)
theorem z_pre (hw : zH D Y ad kd RL M J A H0 H locs s) {av : List Value} (U : State) (hU : U.heap = H) (hW : s.WarmedH U.vm) : va_Pc av (zP D Y ad kd RL M J H.size) av.toArray U :=
  ⟨rfl, by rw [hU], by rw [hU]; exact hw.1, va_K.moved hW.alike hw.2.1, hw.2.2.1.weaken (fun _ _ _ _ => trivial), hw.2.2.2.2.2.1, hw.2.2.2.2.2.2.1, hw.2.2.2.2.2.2.2.1, hw.2.2.2.2.2.2.2.2.1.warm hW, by rw [hU]; exact ((hw.2.2.2.2.2.2.2.2.2.moved hW.alike).kept hw.2.2.2.1.2.1).narrow (z_free hw)⟩
theorem z_iret {v : Int32} {post : Int32 → zM → zL → Prop} {QE : State → Prop} (hQE : QE = MQ below (va_Qi (zqi post) (zB D Y ad kd RL) A) args s cells slots A) (hx : p.tables.exec = Jvm.exec) (hb : c.code = cc) (hr : meth.sig.returnType = some .int) (hlocks : meth.locks = false) (hw : zH D Y ad kd RL M J A s.heap H locs s) (hd : decode cc pc = .ok (.ireturn, 1)) (hq : post v M J) :
    W p l e R s m args below meth c H locs cells slots QE (F0 m pc ls [.int v]) := by
  subst hQE
  exact W.iret hx hb hr (fun t ht hW => ⟨⟨v, (M, J), rfl, hq, ⟨by show va_P _ _ _ _; rw [ht]; exact hw.1, hw.2.2.2.2.2.2.2.1⟩⟩, hw.2.2.2.1.F ht⟩) hw.2.2.2.1.2.2 hd hlocks
theorem z_zret {v : Int32} {post : Int32 → zM → zL → Prop} {QE : State → Prop} (hQE : QE = MQ below (va_Qi (zqi post) (zB D Y ad kd RL) A) args s cells slots A) (hx : p.tables.exec = Jvm.exec) (hb : c.code = cc) (hr : meth.sig.returnType = some .boolean) (hlocks : meth.locks = false) (hw : zH D Y ad kd RL M J A s.heap H locs s) (hd : decode cc pc = .ok (.ireturn, 1)) (hn : narrow .boolean (.int v) = .int v) (hq : post v M J) :
    W p l e R s m args below meth c H locs cells slots QE (F0 m pc ls [.int v]) := by
  subst hQE
  exact W.zret hx hb hr hn (fun t ht hW => ⟨⟨v, (M, J), rfl, hq, ⟨by show va_P _ _ _ _; rw [ht]; exact hw.1, hw.2.2.2.2.2.2.2.1⟩⟩, hw.2.2.2.1.F ht⟩) hw.2.2.2.1.2.2 hd hlocks
theorem z_lret {v : Int64} {post : Int64 → zM → zL → Prop} {QE : State → Prop} (hQE : QE = MQ below (va_Ql (zql post) (zB D Y ad kd RL) A) args s cells slots A) (hx : p.tables.exec = Jvm.exec) (hb : c.code = cc) (hr : meth.sig.returnType = some .long) (hlocks : meth.locks = false) (hw : zH D Y ad kd RL M J A s.heap H locs s) (hd : decode cc pc = .ok (.lreturn, 1)) (hq : post v M J) :
    W p l e R s m args below meth c H locs cells slots QE (F0 m pc ls [.long v]) := by
  subst hQE
  exact W.lret hx hb hr (fun t ht hW => ⟨⟨v, (M, J), rfl, hq, ⟨by show va_P _ _ _ _; rw [ht]; exact hw.1, hw.2.2.2.2.2.2.2.1⟩⟩, hw.2.2.2.1.F ht⟩) hw.2.2.2.1.2.2 hd hlocks
theorem z_vret {post : zM → zL → Prop} {QE : State → Prop} (hQE : QE = MQ below (va_Qv (zqv post) (zB D Y ad kd RL) A) args s cells slots A) (hx : p.tables.exec = Jvm.exec) (hb : c.code = cc) (hr : meth.sig.returnType = none) (hlocks : meth.locks = false) (hw : zH D Y ad kd RL M J A s.heap H locs s) (hd : decode cc pc = .ok (.return_, 1)) (hq : post M J) :
    W p l e R s m args below meth c H locs cells slots QE (F0 m pc ls []) := by
  subst hQE
  exact W.vret hx hb hr (fun t ht hW => ⟨⟨(M, J), rfl, hq, ⟨by show va_P _ _ _ _; rw [ht]; exact hw.1, hw.2.2.2.2.2.2.2.1⟩⟩, hw.2.2.2.1.F ht⟩) hw.2.2.2.1.2.2 hd hlocks
theorem z_metia {y : MethodName} {ws ws' : List Cond} {rm : Room} {maxL mc ms : Nat} {ret : Option FieldType} {av : List Value} {post : Int32 → zM → zL → Prop} (hy : plainName y.cls = true) (hw : ws = Cond.code y cc maxL ret :: ws') (hn : (lg_sl av).length ≤ maxL)
    (body : ∀ (p : Program) (e : Env) (s : State) (m : MethodId) (below : List Frame) (meth : Method) (c : Code) (ls : Array Slot) (A : Nat → Prop) (ar : Array Value) (QE : State → Prop), QE = MQ below (va_Qi (zqi post) (zBa D Y ad kd A) A) ar s mc ms A → p.tables.exec = Jvm.exec → c.code = cc → meth.sig.returnType = ret → c.maxLocals = maxL → s.vm.findClass y.cls = some m.cls → (∀ w ∈ ws, w.before ar s = true) → meth.locks = false → zH D Y ad kd RL M J A s.heap s.heap [] s → lv_has ls maxL (lv_args 0 av) →
      W p l e rm s m ar below meth c s.heap [] 0 0 QE (F0 m 0 ls [])) : zCia l y ws rm av D Y ad kd RL M J mc ms post := by
  intro sz
  refine Met.ofW (cc := cc) (maxL := maxL) (ret := ret) hy hw ?_
  intro p e s m args below meth c s₁ B hml hv
  obtain ⟨rfl, hsz, hP, hK, hD0, hC, hR, hZ, hN, hX⟩ := hv
  subst hsz
  have hl := lv_entry av (n := maxL) hn
  rw [lg_entry_eq]
  exact body p e s m below meth c _ _ _ _ rfl B.exec B.bytes B.returns hml (findClass_of_methodNamed B.named) (atoms_spec (ws := ws) B.pre) B.notSynchronized ⟨hP, hK, hD0.self, va_S.rf, fun q h => Or.inr h, hC, hR, hZ, hN, hX⟩ hl
theorem z_metva {y : MethodName} {ws ws' : List Cond} {rm : Room} {maxL mc ms : Nat} {ret : Option FieldType} {av : List Value} {post : zM → zL → Prop} (hy : plainName y.cls = true) (hw : ws = Cond.code y cc maxL ret :: ws') (hn : (lg_sl av).length ≤ maxL)
    (body : ∀ (p : Program) (e : Env) (s : State) (m : MethodId) (below : List Frame) (meth : Method) (c : Code) (ls : Array Slot) (A : Nat → Prop) (ar : Array Value) (QE : State → Prop), QE = MQ below (va_Qv (zqv post) (zBa D Y ad kd A) A) ar s mc ms A → p.tables.exec = Jvm.exec → c.code = cc → meth.sig.returnType = ret → c.maxLocals = maxL → s.vm.findClass y.cls = some m.cls → (∀ w ∈ ws, w.before ar s = true) → meth.locks = false → zH D Y ad kd RL M J A s.heap s.heap [] s → lv_has ls maxL (lv_args 0 av) →
      W p l e rm s m ar below meth c s.heap [] 0 0 QE (F0 m 0 ls [])) : zCva l y ws rm av D Y ad kd RL M J mc ms post := by
  intro sz
  refine Met.ofW (cc := cc) (maxL := maxL) (ret := ret) hy hw ?_
  intro p e s m args below meth c s₁ B hml hv
  obtain ⟨rfl, hsz, hP, hK, hD0, hC, hR, hZ, hN, hX⟩ := hv
  subst hsz
  have hl := lv_entry av (n := maxL) hn
  rw [lg_entry_eq]
  exact body p e s m below meth c _ _ _ _ rfl B.exec B.bytes B.returns hml (findClass_of_methodNamed B.named) (atoms_spec (ws := ws) B.pre) B.notSynchronized ⟨hP, hK, hD0.self, va_S.rf, fun q h => Or.inr h, hC, hR, hZ, hN, hX⟩ hl
theorem z_ireta {v : Int32} {post : Int32 → zM → zL → Prop} {ad0 kd0 : Nat → Nat} {mc ms : Nat} {QE : State → Prop} (hQE : QE = MQ below (va_Qi (zqi post) (zBa D Y ad0 kd0 A) A) args s mc ms A) (hx : p.tables.exec = Jvm.exec) (hb : c.code = cc) (hr : meth.sig.returnType = some .int) (hlocks : meth.locks = false) (hw : zH D Y ad kd RL M J A s.heap H locs s) (hE : zE ad0 kd0 ad kd) (hc : cells ≤ mc) (hs : slots ≤ ms) (hd : decode cc pc = .ok (.ireturn, 1)) (hq : post v M J) :
    W p l e R s m args below meth c H locs cells slots QE (F0 m pc ls [.int v]) := by
  subst hQE
  refine W.widen (k := mc) (n := ms) hc hs ?_
  exact W.iret hx hb hr (fun t ht hW => ⟨⟨v, (M, J), rfl, hq, ad, kd, RL, by rw [ht]; exact hw.1, hw.2.2.1, hw.2.2.2.2.2.1, hw.2.2.2.2.2.2.1, hw.2.2.2.2.2.2.2.1, hE⟩, hw.2.2.2.1.F ht⟩) hw.2.2.2.1.2.2 hd hlocks
theorem z_vreta {post : zM → zL → Prop} {ad0 kd0 : Nat → Nat} {mc ms : Nat} {QE : State → Prop} (hQE : QE = MQ below (va_Qv (zqv post) (zBa D Y ad0 kd0 A) A) args s mc ms A) (hx : p.tables.exec = Jvm.exec) (hb : c.code = cc) (hr : meth.sig.returnType = none) (hlocks : meth.locks = false) (hw : zH D Y ad kd RL M J A s.heap H locs s) (hE : zE ad0 kd0 ad kd) (hc : cells ≤ mc) (hs : slots ≤ ms) (hd : decode cc pc = .ok (.return_, 1)) (hq : post M J) :
    W p l e R s m args below meth c H locs cells slots QE (F0 m pc ls []) := by
  subst hQE
  refine W.widen (k := mc) (n := ms) hc hs ?_
  exact W.vret hx hb hr (fun t ht hW => ⟨⟨(M, J), rfl, hq, ad, kd, RL, by rw [ht]; exact hw.1, hw.2.2.1, hw.2.2.2.2.2.1, hw.2.2.2.2.2.2.1, hw.2.2.2.2.2.2.2.1, hE⟩, hw.2.2.2.1.F ht⟩) hw.2.2.2.1.2.2 hd hlocks
theorem z_recv {ci : Nat} {q : vw_C} (hw : zH D Y ad kd RL M J A H0 H locs s) (ho : kd o = ci) (hc : ci < 9) (hq : vwCl[ci]? = some q) : ∃ cell : Cell, H[ad o]? = some cell ∧ cell.vm.isStatics = false ∧ s.vm.findClass q.1 = some cell.cls := by
  obtain ⟨k, hk, -⟩ := zW_get (Y := Y) (ad := ad) (kd := kd) (M := M) (J := J) ((hw.2.2.2.2.2.2.1 o).1 (by omega))
  obtain ⟨fs, hf⟩ := z_obj (ad := ad) (kd := kd) (Y := Y) (M := M) (J := J) ho hc
  rw [hf] at hk
  exact va_recv hw.2.1 hw.1 hq hk
theorem z_cvi {y : MethodName} {ws Ts : List Cond} {rm : Room} {As st : List Value} {bytes : ByteArray} {maxL nL n : Nat} {ret : Option FieldType} {C : String} {T : u_T} {N ci : Nat} {post : Int32 → zM → zL → Prop} (S : CallFix p m c cc nL s args Ts own) (hw : zH D Y ad kd RL M J A H0 H locs s) (ho : kd o = ci) (hM : zCi l y ws rm (.ref (ad o) :: As) D Y ad kd RL M J post) (hc : ci < 9) (hq : vwCl[ci]? = some (C, T, N)) (cw : CallW R s args own C index y bytes maxL ret ws rm 0 0 n) (hn : As.length = n) (hsize : ls.size = nL) (hst : st = As.reverse ++ .ref (ad o) :: rest) (hW : (rest.map fun v => v.category).sum ≤ 8) (hdg : decode cc pc = .ok (.invokevirtual index, 3)) (hf : cells ≤ R.cells ∧ slots ≤ R.slots)
    (k : ∀ (r : Int32) (M' : zM) (J' : zL) (H1 : Heap) (locs1 : List Loc), post r M' J' → zH D Y ad kd RL M' J' A H0 H1 locs1 s → W p l e R s m args below meth c H1 locs1 cells slots Q (F0 m (pc + 3) ls (.int r :: rest))) : W p l e R s m args below meth c H locs cells slots Q (F0 m pc ls st) := by
  refine va_calli (va_runV (rest := rest) S (hM H.size) cw ⟨zP_blind, z_recv hw ho hc hq, fun U hU hW => z_pre hw U hU hW⟩ rfl hn hsize hst (lv_room hW) hdg hf) hw.2.2.2.1 (fun q _ h => z_free hw q h) (z_free hw) (fun r u t H1 locs1 ht hvm hp hB hz1 hk1 hS => ?_)
  exact k r u.1 u.2 H1 locs1 hp (hw.next (by have h := hB.1; rw [ht] at h; exact h) hS hB.2)
theorem z_csi {y : MethodName} {ws Ts : List Cond} {rm : Room} {As st : List Value} {bytes : ByteArray} {maxL nL n : Nat} {ret : Option FieldType} {post : Int32 → zM → zL → Prop} (S : CallFix p m c cc nL s args Ts own) (hw : zH D Y ad kd RL M J A H0 H locs s) (hM : zCi l y ws rm As D Y ad kd RL M J post) (cw : CallB R s args own index y bytes maxL ret ws rm 0 0 n ∧ (Cond.static y).before args s = true) (hn : As.length = n) (hsize : ls.size = nL) (hst : st = As.reverse ++ rest) (hW : (rest.map fun v => v.category).sum ≤ 8) (hdg : decode cc pc = .ok (.invokestatic index, 3)) (hf : cells ≤ R.cells ∧ slots ≤ R.slots)
    (k : ∀ (r : Int32) (M' : zM) (J' : zL) (H1 : Heap) (locs1 : List Loc), post r M' J' → zH D Y ad kd RL M' J' A H0 H1 locs1 s → W p l e R s m args below meth c H1 locs1 cells slots Q (F0 m (pc + 3) ls (.int r :: rest))) : W p l e R s m args below meth c H locs cells slots Q (F0 m pc ls st) := by
  refine va_calli (va_runS (rest := rest) S (hM H.size) cw ⟨zP_blind, fun U hU hW => z_pre hw U hU hW⟩ rfl hn hsize hst (lv_room hW) hdg hf) hw.2.2.2.1 (fun q _ h => z_free hw q h) (z_free hw) (fun r u t H1 locs1 ht hvm hp hB hz1 hk1 hS => ?_)
  exact k r u.1 u.2 H1 locs1 hp (hw.next (by have h := hB.1; rw [ht] at h; exact h) hS hB.2)
theorem z_cvl {y : MethodName} {ws Ts : List Cond} {rm : Room} {As st : List Value} {bytes : ByteArray} {maxL nL n : Nat} {ret : Option FieldType} {C : String} {T : u_T} {N ci : Nat} {post : Int64 → zM → zL → Prop} (S : CallFix p m c cc nL s args Ts own) (hw : zH D Y ad kd RL M J A H0 H locs s) (ho : kd o = ci) (hM : zCl_ l y ws rm (.ref (ad o) :: As) D Y ad kd RL M J post) (hc : ci < 9) (hq : vwCl[ci]? = some (C, T, N)) (cw : CallW R s args own C index y bytes maxL ret ws rm 0 0 n) (hn : As.length = n) (hsize : ls.size = nL) (hst : st = As.reverse ++ .ref (ad o) :: rest) (hW : (rest.map fun v => v.category).sum ≤ 8) (hdg : decode cc pc = .ok (.invokevirtual index, 3)) (hf : cells ≤ R.cells ∧ slots ≤ R.slots)
    (k : ∀ (r : Int64) (M' : zM) (J' : zL) (H1 : Heap) (locs1 : List Loc), post r M' J' → zH D Y ad kd RL M' J' A H0 H1 locs1 s → W p l e R s m args below meth c H1 locs1 cells slots Q (F0 m (pc + 3) ls (.long r :: rest))) : W p l e R s m args below meth c H locs cells slots Q (F0 m pc ls st) := by
  refine va_calll (va_runV (rest := rest) S (hM H.size) cw ⟨zP_blind, z_recv hw ho hc hq, fun U hU hW => z_pre hw U hU hW⟩ rfl hn hsize hst (lv_room hW) hdg hf) hw.2.2.2.1 (fun q _ h => z_free hw q h) (z_free hw) (fun r u t H1 locs1 ht hvm hp hB hz1 hk1 hS => ?_)
  exact k r u.1 u.2 H1 locs1 hp (hw.next (by have h := hB.1; rw [ht] at h; exact h) hS hB.2)
theorem z_csl {y : MethodName} {ws Ts : List Cond} {rm : Room} {As st : List Value} {bytes : ByteArray} {maxL nL n : Nat} {ret : Option FieldType} {post : Int64 → zM → zL → Prop} (S : CallFix p m c cc nL s args Ts own) (hw : zH D Y ad kd RL M J A H0 H locs s) (hM : zCl_ l y ws rm As D Y ad kd RL M J post) (cw : CallB R s args own index y bytes maxL ret ws rm 0 0 n ∧ (Cond.static y).before args s = true) (hn : As.length = n) (hsize : ls.size = nL) (hst : st = As.reverse ++ rest) (hW : (rest.map fun v => v.category).sum ≤ 8) (hdg : decode cc pc = .ok (.invokestatic index, 3)) (hf : cells ≤ R.cells ∧ slots ≤ R.slots)
    (k : ∀ (r : Int64) (M' : zM) (J' : zL) (H1 : Heap) (locs1 : List Loc), post r M' J' → zH D Y ad kd RL M' J' A H0 H1 locs1 s → W p l e R s m args below meth c H1 locs1 cells slots Q (F0 m (pc + 3) ls (.long r :: rest))) : W p l e R s m args below meth c H locs cells slots Q (F0 m pc ls st) := by
  refine va_calll (va_runS (rest := rest) S (hM H.size) cw ⟨zP_blind, fun U hU hW => z_pre hw U hU hW⟩ rfl hn hsize hst (lv_room hW) hdg hf) hw.2.2.2.1 (fun q _ h => z_free hw q h) (z_free hw) (fun r u t H1 locs1 ht hvm hp hB hz1 hk1 hS => ?_)
  exact k r u.1 u.2 H1 locs1 hp (hw.next (by have h := hB.1; rw [ht] at h; exact h) hS hB.2)
theorem z_cvv {y : MethodName} {ws Ts : List Cond} {rm : Room} {As st : List Value} {bytes : ByteArray} {maxL nL n : Nat} {ret : Option FieldType} {C : String} {T : u_T} {N ci : Nat} {post : zM → zL → Prop} (S : CallFix p m c cc nL s args Ts own) (hw : zH D Y ad kd RL M J A H0 H locs s) (ho : kd o = ci) (hM : zCv l y ws rm (.ref (ad o) :: As) D Y ad kd RL M J post) (hc : ci < 9) (hq : vwCl[ci]? = some (C, T, N)) (cw : CallW R s args own C index y bytes maxL ret ws rm 0 0 n) (hn : As.length = n) (hsize : ls.size = nL) (hst : st = As.reverse ++ .ref (ad o) :: rest) (hW : (rest.map fun v => v.category).sum ≤ 8) (hdg : decode cc pc = .ok (.invokevirtual index, 3)) (hf : cells ≤ R.cells ∧ slots ≤ R.slots)
    (k : ∀ (M' : zM) (J' : zL) (H1 : Heap) (locs1 : List Loc), post M' J' → zH D Y ad kd RL M' J' A H0 H1 locs1 s → W p l e R s m args below meth c H1 locs1 cells slots Q (F0 m (pc + 3) ls rest)) : W p l e R s m args below meth c H locs cells slots Q (F0 m pc ls st) := by
  refine va_callv (va_runV (rest := rest) S (hM H.size) cw ⟨zP_blind, z_recv hw ho hc hq, fun U hU hW => z_pre hw U hU hW⟩ rfl hn hsize hst (lv_room hW) hdg hf) hw.2.2.2.1 (fun q _ h => z_free hw q h) (z_free hw) (fun u t H1 locs1 ht hvm hp hB hz1 hk1 hS => ?_)
  exact k u.1 u.2 H1 locs1 hp (hw.next (by have h := hB.1; rw [ht] at h; exact h) hS hB.2)
theorem z_csv {y : MethodName} {ws Ts : List Cond} {rm : Room} {As st : List Value} {bytes : ByteArray} {maxL nL n : Nat} {ret : Option FieldType} {post : zM → zL → Prop} (S : CallFix p m c cc nL s args Ts own) (hw : zH D Y ad kd RL M J A H0 H locs s) (hM : zCv l y ws rm As D Y ad kd RL M J post) (cw : CallB R s args own index y bytes maxL ret ws rm 0 0 n ∧ (Cond.static y).before args s = true) (hn : As.length = n) (hsize : ls.size = nL) (hst : st = As.reverse ++ rest) (hW : (rest.map fun v => v.category).sum ≤ 8) (hdg : decode cc pc = .ok (.invokestatic index, 3)) (hf : cells ≤ R.cells ∧ slots ≤ R.slots)
    (k : ∀ (M' : zM) (J' : zL) (H1 : Heap) (locs1 : List Loc), post M' J' → zH D Y ad kd RL M' J' A H0 H1 locs1 s → W p l e R s m args below meth c H1 locs1 cells slots Q (F0 m (pc + 3) ls rest)) : W p l e R s m args below meth c H locs cells slots Q (F0 m pc ls st) := by
  refine va_callv (va_runS (rest := rest) S (hM H.size) cw ⟨zP_blind, fun U hU hW => z_pre hw U hU hW⟩ rfl hn hsize hst (lv_room hW) hdg hf) hw.2.2.2.1 (fun q _ h => z_free hw q h) (z_free hw) (fun u t H1 locs1 ht hvm hp hB hz1 hk1 hS => ?_)
  exact k u.1 u.2 H1 locs1 hp (hw.next (by have h := hB.1; rw [ht] at h; exact h) hS hB.2)
theorem z_cai {y : MethodName} {ws Ts : List Cond} {rm : Room} {As st : List Value} {bytes : ByteArray} {maxL nL n mc ms : Nat} {ret : Option FieldType} {C : String} {T : u_T} {N ci : Nat} {post : Int32 → zM → zL → Prop} (S : CallFix p m c cc nL s args Ts own) (hw : zH D Y ad kd RL M J A H0 H locs s) (ho : kd o = ci) (hM : zCia l y ws rm (.ref (ad o) :: As) D Y ad kd RL M J mc ms post) (hc : ci < 9) (hq : vwCl[ci]? = some (C, T, N)) (cw : CallW R s args own C index y bytes maxL ret ws rm mc ms n) (hn : As.length = n) (hsize : ls.size = nL) (hst : st = As.reverse ++ .ref (ad o) :: rest) (hW : (rest.map fun v => v.category).sum ≤ 8) (hdg : decode cc pc = .ok (.invokevirtual index, 3)) (hf : cells + mc ≤ R.cells ∧ slots + ms ≤ R.slots)
    (k : ∀ (r : Int32) (ad' kd' : Nat → Nat) (RL' : List Nat) (M' : zM) (J' : zL) (H1 : Heap) (locs1 : List Loc), post r M' J' → zE ad kd ad' kd' → zH D Y ad' kd' RL' M' J' A H0 H1 locs1 s → W p l e R s m args below meth c H1 locs1 (cells + mc) (slots + ms) Q (F0 m (pc + 3) ls (.int r :: rest))) : W p l e R s m args below meth c H locs cells slots Q (F0 m pc ls st) := by
  refine va_calli (va_runV (rest := rest) S (hM H.size) cw ⟨zP_blind, z_recv hw ho hc hq, fun U hU hW => z_pre hw U hU hW⟩ rfl hn hsize hst (lv_room hW) hdg hf) hw.2.2.2.1 (fun q _ h => z_free hw q h) (z_free hw) (fun r u t H1 locs1 ht hvm hp hB hz1 hk1 hS => ?_)
  obtain ⟨ad', kd', RL', hP', hD', hC', hR', hZ', hE⟩ := hB
  rw [ht] at hP'
  exact k r ad' kd' RL' u.1 u.2 H1 locs1 hp hE ⟨hP', hw.2.1, hD'.weaken (fun _ _ _ h => z_free hw _ h), hS, hw.2.2.2.2.1, hC', hR', hZ', hw.2.2.2.2.2.2.2.2⟩
theorem z_cav {y : MethodName} {ws Ts : List Cond} {rm : Room} {As st : List Value} {bytes : ByteArray} {maxL nL n mc ms : Nat} {ret : Option FieldType} {C : String} {T : u_T} {N ci : Nat} {post : zM → zL → Prop} (S : CallFix p m c cc nL s args Ts own) (hw : zH D Y ad kd RL M J A H0 H locs s) (ho : kd o = ci) (hM : zCva l y ws rm (.ref (ad o) :: As) D Y ad kd RL M J mc ms post) (hc : ci < 9) (hq : vwCl[ci]? = some (C, T, N)) (cw : CallW R s args own C index y bytes maxL ret ws rm mc ms n) (hn : As.length = n) (hsize : ls.size = nL) (hst : st = As.reverse ++ .ref (ad o) :: rest) (hW : (rest.map fun v => v.category).sum ≤ 8) (hdg : decode cc pc = .ok (.invokevirtual index, 3)) (hf : cells + mc ≤ R.cells ∧ slots + ms ≤ R.slots)
    (k : ∀ (ad' kd' : Nat → Nat) (RL' : List Nat) (M' : zM) (J' : zL) (H1 : Heap) (locs1 : List Loc), post M' J' → zE ad kd ad' kd' → zH D Y ad' kd' RL' M' J' A H0 H1 locs1 s → W p l e R s m args below meth c H1 locs1 (cells + mc) (slots + ms) Q (F0 m (pc + 3) ls rest)) : W p l e R s m args below meth c H locs cells slots Q (F0 m pc ls st) := by
  refine va_callv (va_runV (rest := rest) S (hM H.size) cw ⟨zP_blind, z_recv hw ho hc hq, fun U hU hW => z_pre hw U hU hW⟩ rfl hn hsize hst (lv_room hW) hdg hf) hw.2.2.2.1 (fun q _ h => z_free hw q h) (z_free hw) (fun u t H1 locs1 ht hvm hp hB hz1 hk1 hS => ?_)
  obtain ⟨ad', kd', RL', hP', hD', hC', hR', hZ', hE⟩ := hB
  rw [ht] at hP'
  exact k ad' kd' RL' u.1 u.2 H1 locs1 hp hE ⟨hP', hw.2.1, hD'.weaken (fun _ _ _ h => z_free hw _ h), hS, hw.2.2.2.2.1, hC', hR', hZ', hw.2.2.2.2.2.2.2.2⟩
theorem z_arr {n : Nat} (ho : kd o = 1000 + n) : zc ad kd Y M J o = .inl (Y.1, n, .inl (M o)) := by
  unfold zc zv
  rw [ho]
  simp only [show ¬ (1000 + n = 0) by omega, show ¬ (1000 + n = 1) by omega, show ¬ (1000 + n = 2) by omega, show ¬ (1000 + n = 3) by omega, show ¬ (1000 + n = 4) by omega, show ¬ (1000 + n = 5) by omega, show ¬ (1000 + n = 6) by omega, show ¬ (1000 + n = 7) by omega, show ¬ (1000 + n = 8) by omega, show ¬ (1000 + n = 10) by omega, show ¬ (1000 + n = 11) by omega, show ¬ (1000 + n = 12) by omega, show ¬ (1000 + n = 13) by omega, show ¬ (1000 + n = 14) by omega, if_false, Nat.add_sub_cancel_left]
theorem z_iald {n : Nat} {i : Int32} (hx : p.tables.exec = Jvm.exec) (hb : c.code = cc) (hw : zH D Y ad kd RL M J A H0 H locs s) (ho : kd o = 1000 + n) (hin : vp_in i n) (hd : decode cc pc = .ok (.iaload, 1)) (k : W p l e R s m args below meth c H locs cells slots Q (F0 m (pc + 1) ls (.int (M o i.toNatClampNeg) :: rest))) : W p l e R s m args below meth c H locs cells slots Q (F0 m pc ls (.int i :: .ref (ad o) :: rest)) := by
  obtain ⟨q0, hq, -⟩ := zW_get (Y := Y) (ad := ad) (kd := kd) (M := M) (J := J) ((hw.2.2.2.2.2.2.1 o).1 (by omega))
  rw [z_arr ho] at hq
  exact va_iald hx hb hw.2.1 hw.1 q0 0 hq rfl hin hd k
theorem z_iast {n : Nat} {i x : Int32} (hx : p.tables.exec = Jvm.exec) (hb : c.code = cc) (hw : zH D Y ad kd RL M J A H0 H locs s) (ho : kd o = 1000 + n) (hin : vp_in i n) (hd : decode cc pc = .ok (.iastore, 1)) (k : ∀ (H1 : Heap) (locs1 : List Loc), zH D Y ad kd RL (va_up M o (upd (M o) i.toNatClampNeg x)) J A H0 H1 locs1 s → W p l e R s m args below meth c H1 locs1 cells slots Q (F0 m (pc + 1) ls rest)) : W p l e R s m args below meth c H locs cells slots Q (F0 m pc ls (.int x :: .int i :: .ref (ad o) :: rest)) := by
  obtain ⟨q0, hq, hk⟩ := zW_get (Y := Y) (ad := ad) (kd := kd) (M := M) (J := J) ((hw.2.2.2.2.2.2.1 o).1 (by omega))
  rw [z_arr ho] at hq
  have hset := zW_set (M' := va_up M o (upd (M o) i.toNatClampNeg x)) (J' := J) hw.2.2.1 hk (e := .inl (Y.1, n, .inl (upd (M o) i.toNatClampNeg x))) (by rw [z_arr ho, va_up_self]) (fun x hx => zc_other (va_up_ne _ _ hx) rfl)
  refine va_iast hx hb hw.2.1 hw.1 hw.2.2.1 hw.2.2.2.1 q0 0 hq rfl hin hd (fun H1 locs1 hP hD hS => ?_)
  rw [hset] at hP
  exact k H1 locs1 (hw.next hP hS (hw.2.2.2.2.2.2.2.1.upM (by omega)))
theorem z_alen {n : Nat} {v : Int32} (hx : p.tables.exec = Jvm.exec) (hb : c.code = cc) (hw : zH D Y ad kd RL M J A H0 H locs s) (ho : kd o = 1000 + n) (hv : Int32.ofNat n = v) (hd : decode cc pc = .ok (.arraylength, 1)) (k : W p l e R s m args below meth c H locs cells slots Q (F0 m (pc + 1) ls (.int v :: rest))) : W p l e R s m args below meth c H locs cells slots Q (F0 m pc ls (.ref (ad o) :: rest)) := by
  obtain ⟨q0, hq, -⟩ := zW_get (Y := Y) (ad := ad) (kd := kd) (M := M) (J := J) ((hw.2.2.2.2.2.2.1 o).1 (by omega))
  rw [z_arr ho] at hq
  exact va_alen hx hb hw.2.1 hw.1 q0 0 hq (ty := .int) rfl hv hd k
theorem z_llen {v : Int32} (hx : p.tables.exec = Jvm.exec) (hb : c.code = cc) (hw : zH D Y ad kd RL M J A H0 H locs s) (ho : kd o = 10) (hv : (8 : Int32) = v) (hd : decode cc pc = .ok (.arraylength, 1)) (k : W p l e R s m args below meth c H locs cells slots Q (F0 m (pc + 1) ls (.int v :: rest))) : W p l e R s m args below meth c H locs cells slots Q (F0 m pc ls (.ref (ad o) :: rest)) := by
  obtain ⟨q0, hq, -⟩ := zW_get (Y := Y) (ad := ad) (kd := kd) (M := M) (J := J) ((hw.2.2.2.2.2.2.1 o).1 (by omega))
  rw [show zc ad kd Y M J o = .inl (Y.2.1, 8, .inr (.inl (J o))) by unfold zc zv; rw [ho]; rfl] at hq
  exact va_alen hx hb hw.2.1 hw.1 q0 1 hq (ty := .long) rfl hv hd k
theorem z_lald {i : Int32} (hx : p.tables.exec = Jvm.exec) (hb : c.code = cc) (hw : zH D Y ad kd RL M J A H0 H locs s) (ho : kd o = 10) (hin : vp_in i 8) (hd : decode cc pc = .ok (.laload, 1)) (k : W p l e R s m args below meth c H locs cells slots Q (F0 m (pc + 1) ls (.long (J o i.toNatClampNeg) :: rest))) : W p l e R s m args below meth c H locs cells slots Q (F0 m pc ls (.int i :: .ref (ad o) :: rest)) := by
  obtain ⟨q0, hq, -⟩ := zW_get (Y := Y) (ad := ad) (kd := kd) (M := M) (J := J) ((hw.2.2.2.2.2.2.1 o).1 (by omega))
  rw [show zc ad kd Y M J o = .inl (Y.2.1, 8, .inr (.inl (J o))) by unfold zc zv; rw [ho]; rfl] at hq
  exact va_lald hx hb hw.2.1 hw.1 q0 1 hq rfl hin hd k
theorem z_last {i : Int32} {x : Int64} (hx : p.tables.exec = Jvm.exec) (hb : c.code = cc) (hw : zH D Y ad kd RL M J A H0 H locs s) (ho : kd o = 10) (hin : vp_in i 8) (hd : decode cc pc = .ok (.lastore, 1)) (k : ∀ (H1 : Heap) (locs1 : List Loc), zH D Y ad kd RL M (va_up J o (vp_updL (J o) i.toNatClampNeg x)) A H0 H1 locs1 s → W p l e R s m args below meth c H1 locs1 cells slots Q (F0 m (pc + 1) ls rest)) : W p l e R s m args below meth c H locs cells slots Q (F0 m pc ls (.long x :: .int i :: .ref (ad o) :: rest)) := by
  obtain ⟨q0, hq, hk⟩ := zW_get (Y := Y) (ad := ad) (kd := kd) (M := M) (J := J) ((hw.2.2.2.2.2.2.1 o).1 (by omega))
  rw [show zc ad kd Y M J o = .inl (Y.2.1, 8, .inr (.inl (J o))) by unfold zc zv; rw [ho]; rfl] at hq
  have hset := zW_set (M' := M) (J' := va_up J o (vp_updL (J o) i.toNatClampNeg x)) hw.2.2.1 hk (e := .inl (Y.2.1, 8, .inr (.inl (vp_updL (J o) i.toNatClampNeg x)))) (by unfold zc zv; rw [ho, va_up_self]; rfl) (fun x hx => zc_other rfl (va_up_ne _ _ hx))
  refine va_last hx hb hw.2.1 hw.1 hw.2.2.1 hw.2.2.2.1 q0 1 hq rfl hin hd (fun H1 locs1 hP hD hS => ?_)
  rw [hset] at hP
  exact k H1 locs1 (hw.next hP hS (hw.2.2.2.2.2.2.2.1.upJ (by omega)))
theorem z_zald {i : Int32} (hx : p.tables.exec = Jvm.exec) (hb : c.code = cc) (hw : zH D Y ad kd RL M J A H0 H locs s) (ho : kd o = 11) (hin : vp_in i 2) (hd : decode cc pc = .ok (.baload, 1)) (k : W p l e R s m args below meth c H locs cells slots Q (F0 m (pc + 1) ls (.int (M o i.toNatClampNeg) :: rest))) : W p l e R s m args below meth c H locs cells slots Q (F0 m pc ls (.int i :: .ref (ad o) :: rest)) := by
  obtain ⟨q0, hq, -⟩ := zW_get (Y := Y) (ad := ad) (kd := kd) (M := M) (J := J) ((hw.2.2.2.2.2.2.1 o).1 (by omega))
  rw [show zc ad kd Y M J o = .inl (Y.2.2.1, 2, .inl (M o)) by unfold zc zv; rw [ho]; rfl] at hq
  exact va_zald hx hb hw.2.1 hw.1 q0 2 hq rfl hin hd k
theorem z_zast {i x : Int32} (hx : p.tables.exec = Jvm.exec) (hb : c.code = cc) (hw : zH D Y ad kd RL M J A H0 H locs s) (ho : kd o = 11) (hin : vp_in i 2) (hd : decode cc pc = .ok (.bastore, 1)) (k : ∀ (H1 : Heap) (locs1 : List Loc), zH D Y ad kd RL (va_up M o (upd (M o) i.toNatClampNeg (vp_nar .boolean x))) J A H0 H1 locs1 s → W p l e R s m args below meth c H1 locs1 cells slots Q (F0 m (pc + 1) ls rest)) : W p l e R s m args below meth c H locs cells slots Q (F0 m pc ls (.int x :: .int i :: .ref (ad o) :: rest)) := by
  obtain ⟨q0, hq, hk⟩ := zW_get (Y := Y) (ad := ad) (kd := kd) (M := M) (J := J) ((hw.2.2.2.2.2.2.1 o).1 (by omega))
  rw [show zc ad kd Y M J o = .inl (Y.2.2.1, 2, .inl (M o)) by unfold zc zv; rw [ho]; rfl] at hq
  have hset := zW_set (M' := va_up M o (upd (M o) i.toNatClampNeg (vp_nar .boolean x))) (J' := J) hw.2.2.1 hk (e := .inl (Y.2.2.1, 2, .inl (upd (M o) i.toNatClampNeg (vp_nar .boolean x)))) (by unfold zc zv; rw [ho, va_up_self]; rfl) (fun x hx => zc_other (va_up_ne _ _ hx) rfl)
  refine va_zast hx hb hw.2.1 hw.1 hw.2.2.1 hw.2.2.2.1 q0 2 hq rfl hin hd (fun H1 locs1 hP hD hS => ?_)
  rw [hset] at hP
  exact k H1 locs1 (hw.next hP hS (hw.2.2.2.2.2.2.2.1.upM (by omega)))
theorem z_ald12 {i : Int32} (hx : p.tables.exec = Jvm.exec) (hb : c.code = cc) (hw : zH D Y ad kd RL M J A H0 H locs s) (ho : kd o = 12) (hin : vp_in i 2) (hd : decode cc pc = .ok (.aaload, 1)) (k : W p l e R s m args below meth c H locs cells slots Q (F0 m (pc + 1) ls (.ref (ad (o + 1 + 5 * i.toNatClampNeg)) :: rest))) : W p l e R s m args below meth c H locs cells slots Q (F0 m pc ls (.int i :: .ref (ad o) :: rest)) := by
  obtain ⟨q0, hq, -⟩ := zW_get (Y := Y) (ad := ad) (kd := kd) (M := M) (J := J) ((hw.2.2.2.2.2.2.1 o).1 (by omega))
  rw [show zc ad kd Y M J o = .inl (Y.2.2.2.1, 2, .inr (.inr (.inr (.inr (fun i => if i < 2 then some (ad (o + 1 + 5 * i)) else none))))) by unfold zc zv; rw [ho]; rfl] at hq
  refine va_aldq hx hb hw.2.1 hw.1 q0 3 hq rfl hin hd ?_
  rw [if_pos (z_lt hin)]
  exact k
theorem z_ald13 {i : Int32} (hx : p.tables.exec = Jvm.exec) (hb : c.code = cc) (hw : zH D Y ad kd RL M J A H0 H locs s) (ho : kd o = 13) (hin : vp_in i 8) (hd : decode cc pc = .ok (.aaload, 1)) (k : W p l e R s m args below meth c H locs cells slots Q (F0 m (pc + 1) ls (.ref (ad (o + 1 + 2 * i.toNatClampNeg)) :: rest))) : W p l e R s m args below meth c H locs cells slots Q (F0 m pc ls (.int i :: .ref (ad o) :: rest)) := by
  obtain ⟨q0, hq, -⟩ := zW_get (Y := Y) (ad := ad) (kd := kd) (M := M) (J := J) ((hw.2.2.2.2.2.2.1 o).1 (by omega))
  rw [show zc ad kd Y M J o = .inl (Y.2.2.2.2, 8, .inr (.inr (.inr (.inr (fun i => if i < 8 then some (ad (o + 1 + 2 * i)) else none))))) by unfold zc zv; rw [ho]; rfl] at hq
  refine va_aldq hx hb hw.2.1 hw.1 q0 4 hq rfl hin hd ?_
  rw [if_pos (z_lt hin)]
  exact k
theorem z_ald14 {i : Int32} (hx : p.tables.exec = Jvm.exec) (hb : c.code = cc) (hw : zH D Y ad kd RL M J A H0 H locs s) (ho : kd o = 14) (hin : vp_in i 24) (hd : decode cc pc = .ok (.aaload, 1)) (k : W p l e R s m args below meth c H locs cells slots Q (F0 m (pc + 1) ls (va_rf (if i.toNatClampNeg < 24 ∧ kd (o + 1 + 5 * i.toNatClampNeg) = 2 then some (ad (o + 1 + 5 * i.toNatClampNeg)) else none) :: rest))) : W p l e R s m args below meth c H locs cells slots Q (F0 m pc ls (.int i :: .ref (ad o) :: rest)) := by
  obtain ⟨q0, hq, -⟩ := zW_get (Y := Y) (ad := ad) (kd := kd) (M := M) (J := J) ((hw.2.2.2.2.2.2.1 o).1 (by omega))
  rw [show zc ad kd Y M J o = .inl (Y.2.2.2.1, 24, .inr (.inr (.inr (.inr (fun i => if i < 24 ∧ kd (o + 1 + 5 * i) = 2 then some (ad (o + 1 + 5 * i)) else none))))) by unfold zc zv; rw [ho]; rfl] at hq
  exact va_aldq hx hb hw.2.1 hw.1 q0 3 hq rfl hin hd k
theorem z_is_0 (ho : kd o = 0) : zc ad kd Y M J o = .inr (0, [.ref (ad (o + 1)), .int (M o 0)]) := by unfold zc zv; rw [ho]; rfl
theorem zg0_trace (hx : p.tables.exec = Jvm.exec) (hb : c.code = cc) (hts : ∀ w ∈ wsX00, w.before args s = true) (hown : s.vm.findClass own = some m.cls) (hw : zH D Y ad kd RL M J A H0 H locs s) (ho : kd o = 0) (hlink : (Cond.fieldLink own index "SlewRails$Asks" "trace" "[I").before args s = true) (hd : decode cc pc = .ok (.getfield index, 3)) (k : W p l e R s m args below meth c H locs cells slots Q (F0 m (pc + 3) ls (.ref (ad (o + 1)) :: rest))) : W p l e R s m args below meth c H locs cells slots Q (F0 m pc ls (.ref (ad o) :: rest)) := by
  obtain ⟨q0, hq, -⟩ := zW_get (Y := Y) (ad := ad) (kd := kd) (M := M) (J := J) ((hw.2.2.2.2.2.2.1 o).1 (by omega))
  rw [z_is_0 ho] at hq
  exact va_get (ci := 0) (C := RX0) (T := TX0) (N := 2) hx hb hts (fun _ h => h) hown hw.2.1 hw.1 q0 hq rfl 0 (by decide) hlink (fun _ h => h) rfl hd k
theorem zg0_left (hx : p.tables.exec = Jvm.exec) (hb : c.code = cc) (hts : ∀ w ∈ wsX00, w.before args s = true) (hown : s.vm.findClass own = some m.cls) (hw : zH D Y ad kd RL M J A H0 H locs s) (ho : kd o = 0) (hlink : (Cond.fieldLink own index "SlewRails$Asks" "left" "I").before args s = true) (hd : decode cc pc = .ok (.getfield index, 3)) (k : W p l e R s m args below meth c H locs cells slots Q (F0 m (pc + 3) ls (.int (M o 0) :: rest))) : W p l e R s m args below meth c H locs cells slots Q (F0 m pc ls (.ref (ad o) :: rest)) := by
  obtain ⟨q0, hq, -⟩ := zW_get (Y := Y) (ad := ad) (kd := kd) (M := M) (J := J) ((hw.2.2.2.2.2.2.1 o).1 (by omega))
  rw [z_is_0 ho] at hq
  exact va_get (ci := 0) (C := RX0) (T := TX0) (N := 2) hx hb hts (fun _ h => h) hown hw.2.1 hw.1 q0 hq rfl 1 (by decide) hlink (fun _ h => h) rfl hd k
theorem zp0_left {v : Int32} (hx : p.tables.exec = Jvm.exec) (hb : c.code = cc) (hts : ∀ w ∈ wsX00, w.before args s = true) (hown : s.vm.findClass own = some m.cls) (hw : zH D Y ad kd RL M J A H0 H locs s) (ho : kd o = 0) (hlink : (Cond.fieldLink own index "SlewRails$Asks" "left" "I").before args s = true) (hd : decode cc pc = .ok (.putfield index, 3)) (k : ∀ (H1 : Heap) (locs1 : List Loc), zH D Y ad kd RL (va_up M o (upd (M o) 0 v)) J A H0 H1 locs1 s → W p l e R s m args below meth c H1 locs1 cells slots Q (F0 m (pc + 3) ls rest)) : W p l e R s m args below meth c H locs cells slots Q (F0 m pc ls (.int v :: .ref (ad o) :: rest)) := by
  obtain ⟨q0, hq, hk⟩ := zW_get (Y := Y) (ad := ad) (kd := kd) (M := M) (J := J) ((hw.2.2.2.2.2.2.1 o).1 (by omega))
  rw [z_is_0 ho] at hq
  refine va_put (ci := 0) (C := RX0) (T := TX0) (N := 2) (ty := .int) (v := .int v) hx hb hts (fun _ h => h) tyX0 tyX0_ok nmX0 hown hw.2.1 hw.1 hw.2.2.1 hw.2.2.2.1 q0 hq rfl 1 (by decide) hlink (fun _ h => h) rfl (by decide +kernel) (vp_nar_int v) rfl (by simp) hd (fun H1 locs1 hP hD hS => ?_)
  refine k H1 locs1 (hw.next ?_ hS (hw.2.2.2.2.2.2.2.1.upM (by omega)))
  rw [← zW_set (M' := (va_up M o (upd (M o) 0 v))) (J' := J) hw.2.2.1 hk (z_is_0 ho) (fun x hx => zc_other (va_up_ne _ _ hx) (rfl))]
  have e : .inr (0, [.ref (ad (o + 1)), .int ((va_up M o (upd (M o) 0 v)) o 0)]) = (.inr (0, List.set [.ref (ad (o + 1)), .int (M o 0)] 1 (.int v)) : va_E) := by simp [va_up_self, List.set, upd, vp_updL]
  rw [e]; exact hP
theorem z_is_1 (ho : kd o = 1) : zc ad kd Y M J o = .inr (1, [.ref (ad (o + 1)), .int (M o 0), .int (M o 1)]) := by unfold zc zv; rw [ho]; rfl
theorem zg1_before (hx : p.tables.exec = Jvm.exec) (hb : c.code = cc) (hts : ∀ w ∈ wsX10, w.before args s = true) (hown : s.vm.findClass own = some m.cls) (hw : zH D Y ad kd RL M J A H0 H locs s) (ho : kd o = 1) (hlink : (Cond.fieldLink own index "SlewRails$History" "before" "[LSlewRails$Rail;").before args s = true) (hd : decode cc pc = .ok (.getfield index, 3)) (k : W p l e R s m args below meth c H locs cells slots Q (F0 m (pc + 3) ls (.ref (ad (o + 1)) :: rest))) : W p l e R s m args below meth c H locs cells slots Q (F0 m pc ls (.ref (ad o) :: rest)) := by
  obtain ⟨q0, hq, -⟩ := zW_get (Y := Y) (ad := ad) (kd := kd) (M := M) (J := J) ((hw.2.2.2.2.2.2.1 o).1 (by omega))
  rw [z_is_1 ho] at hq
  exact va_get (ci := 1) (C := RX1) (T := TX1) (N := 3) hx hb hts (fun _ h => h) hown hw.2.1 hw.1 q0 hq rfl 0 (by decide) hlink (fun _ h => h) rfl hd k
theorem zg1_held (hx : p.tables.exec = Jvm.exec) (hb : c.code = cc) (hts : ∀ w ∈ wsX10, w.before args s = true) (hown : s.vm.findClass own = some m.cls) (hw : zH D Y ad kd RL M J A H0 H locs s) (ho : kd o = 1) (hlink : (Cond.fieldLink own index "SlewRails$History" "held" "I").before args s = true) (hd : decode cc pc = .ok (.getfield index, 3)) (k : W p l e R s m args below meth c H locs cells slots Q (F0 m (pc + 3) ls (.int (M o 0) :: rest))) : W p l e R s m args below meth c H locs cells slots Q (F0 m pc ls (.ref (ad o) :: rest)) := by
  obtain ⟨q0, hq, -⟩ := zW_get (Y := Y) (ad := ad) (kd := kd) (M := M) (J := J) ((hw.2.2.2.2.2.2.1 o).1 (by omega))
  rw [z_is_1 ho] at hq
  exact va_get (ci := 1) (C := RX1) (T := TX1) (N := 3) hx hb hts (fun _ h => h) hown hw.2.1 hw.1 q0 hq rfl 1 (by decide) hlink (fun _ h => h) rfl hd k
theorem zp1_held {v : Int32} (hx : p.tables.exec = Jvm.exec) (hb : c.code = cc) (hts : ∀ w ∈ wsX10, w.before args s = true) (hown : s.vm.findClass own = some m.cls) (hw : zH D Y ad kd RL M J A H0 H locs s) (ho : kd o = 1) (hlink : (Cond.fieldLink own index "SlewRails$History" "held" "I").before args s = true) (hd : decode cc pc = .ok (.putfield index, 3)) (k : ∀ (H1 : Heap) (locs1 : List Loc), zH D Y ad kd RL (va_up M o (upd (M o) 0 v)) J A H0 H1 locs1 s → W p l e R s m args below meth c H1 locs1 cells slots Q (F0 m (pc + 3) ls rest)) : W p l e R s m args below meth c H locs cells slots Q (F0 m pc ls (.int v :: .ref (ad o) :: rest)) := by
  obtain ⟨q0, hq, hk⟩ := zW_get (Y := Y) (ad := ad) (kd := kd) (M := M) (J := J) ((hw.2.2.2.2.2.2.1 o).1 (by omega))
  rw [z_is_1 ho] at hq
  refine va_put (ci := 1) (C := RX1) (T := TX1) (N := 3) (ty := .int) (v := .int v) hx hb hts (fun _ h => h) tyX1 tyX1_ok nmX1 hown hw.2.1 hw.1 hw.2.2.1 hw.2.2.2.1 q0 hq rfl 1 (by decide) hlink (fun _ h => h) rfl (by decide +kernel) (vp_nar_int v) rfl (by simp) hd (fun H1 locs1 hP hD hS => ?_)
  refine k H1 locs1 (hw.next ?_ hS (hw.2.2.2.2.2.2.2.1.upM (by omega)))
  rw [← zW_set (M' := (va_up M o (upd (M o) 0 v))) (J' := J) hw.2.2.1 hk (z_is_1 ho) (fun x hx => zc_other (va_up_ne _ _ hx) (rfl))]
  have e : .inr (1, [.ref (ad (o + 1)), .int ((va_up M o (upd (M o) 0 v)) o 0), .int ((va_up M o (upd (M o) 0 v)) o 1)]) = (.inr (1, List.set [.ref (ad (o + 1)), .int (M o 0), .int (M o 1)] 1 (.int v)) : va_E) := by simp [va_up_self, List.set, upd, vp_updL]
  rw [e]; exact hP
theorem zg1_next (hx : p.tables.exec = Jvm.exec) (hb : c.code = cc) (hts : ∀ w ∈ wsX10, w.before args s = true) (hown : s.vm.findClass own = some m.cls) (hw : zH D Y ad kd RL M J A H0 H locs s) (ho : kd o = 1) (hlink : (Cond.fieldLink own index "SlewRails$History" "next" "I").before args s = true) (hd : decode cc pc = .ok (.getfield index, 3)) (k : W p l e R s m args below meth c H locs cells slots Q (F0 m (pc + 3) ls (.int (M o 1) :: rest))) : W p l e R s m args below meth c H locs cells slots Q (F0 m pc ls (.ref (ad o) :: rest)) := by
  obtain ⟨q0, hq, -⟩ := zW_get (Y := Y) (ad := ad) (kd := kd) (M := M) (J := J) ((hw.2.2.2.2.2.2.1 o).1 (by omega))
  rw [z_is_1 ho] at hq
  exact va_get (ci := 1) (C := RX1) (T := TX1) (N := 3) hx hb hts (fun _ h => h) hown hw.2.1 hw.1 q0 hq rfl 2 (by decide) hlink (fun _ h => h) rfl hd k
theorem zp1_next {v : Int32} (hx : p.tables.exec = Jvm.exec) (hb : c.code = cc) (hts : ∀ w ∈ wsX10, w.before args s = true) (hown : s.vm.findClass own = some m.cls) (hw : zH D Y ad kd RL M J A H0 H locs s) (ho : kd o = 1) (hlink : (Cond.fieldLink own index "SlewRails$History" "next" "I").before args s = true) (hd : decode cc pc = .ok (.putfield index, 3)) (k : ∀ (H1 : Heap) (locs1 : List Loc), zH D Y ad kd RL (va_up M o (upd (M o) 1 v)) J A H0 H1 locs1 s → W p l e R s m args below meth c H1 locs1 cells slots Q (F0 m (pc + 3) ls rest)) : W p l e R s m args below meth c H locs cells slots Q (F0 m pc ls (.int v :: .ref (ad o) :: rest)) := by
  obtain ⟨q0, hq, hk⟩ := zW_get (Y := Y) (ad := ad) (kd := kd) (M := M) (J := J) ((hw.2.2.2.2.2.2.1 o).1 (by omega))
  rw [z_is_1 ho] at hq
  refine va_put (ci := 1) (C := RX1) (T := TX1) (N := 3) (ty := .int) (v := .int v) hx hb hts (fun _ h => h) tyX1 tyX1_ok nmX1 hown hw.2.1 hw.1 hw.2.2.1 hw.2.2.2.1 q0 hq rfl 2 (by decide) hlink (fun _ h => h) rfl (by decide +kernel) (vp_nar_int v) rfl (by simp) hd (fun H1 locs1 hP hD hS => ?_)
  refine k H1 locs1 (hw.next ?_ hS (hw.2.2.2.2.2.2.2.1.upM (by omega)))
  rw [← zW_set (M' := (va_up M o (upd (M o) 1 v))) (J' := J) hw.2.2.1 hk (z_is_1 ho) (fun x hx => zc_other (va_up_ne _ _ hx) (rfl))]
  have e : .inr (1, [.ref (ad (o + 1)), .int ((va_up M o (upd (M o) 1 v)) o 0), .int ((va_up M o (upd (M o) 1 v)) o 1)]) = (.inr (1, List.set [.ref (ad (o + 1)), .int (M o 0), .int (M o 1)] 2 (.int v)) : va_E) := by simp [va_up_self, List.set, upd, vp_updL]
  rw [e]; exact hP
theorem z_is_2 (ho : kd o = 2) : zc ad kd Y M J o = .inr (2, [.int (M o 0), .int (M o 1), .ref (ad (o + 1)), .ref (ad (o + 2)), .ref (ad (o + 3)), .ref (ad (o + 4))]) := by unfold zc zv; rw [ho]; rfl
theorem zg2_pegs (hx : p.tables.exec = Jvm.exec) (hb : c.code = cc) (hts : ∀ w ∈ wsX20, w.before args s = true) (hown : s.vm.findClass own = some m.cls) (hw : zH D Y ad kd RL M J A H0 H locs s) (ho : kd o = 2) (hlink : (Cond.fieldLink own index "SlewRails$Rail" "pegs" "I").before args s = true) (hd : decode cc pc = .ok (.getfield index, 3)) (k : W p l e R s m args below meth c H locs cells slots Q (F0 m (pc + 3) ls (.int (M o 0) :: rest))) : W p l e R s m args below meth c H locs cells slots Q (F0 m pc ls (.ref (ad o) :: rest)) := by
  obtain ⟨q0, hq, -⟩ := zW_get (Y := Y) (ad := ad) (kd := kd) (M := M) (J := J) ((hw.2.2.2.2.2.2.1 o).1 (by omega))
  rw [z_is_2 ho] at hq
  exact va_get (ci := 2) (C := RX2) (T := TX2) (N := 6) hx hb hts (fun _ h => h) hown hw.2.1 hw.1 q0 hq rfl 0 (by decide) hlink (fun _ h => h) rfl hd k
theorem zp2_pegs {v : Int32} (hx : p.tables.exec = Jvm.exec) (hb : c.code = cc) (hts : ∀ w ∈ wsX20, w.before args s = true) (hown : s.vm.findClass own = some m.cls) (hw : zH D Y ad kd RL M J A H0 H locs s) (ho : kd o = 2) (hlink : (Cond.fieldLink own index "SlewRails$Rail" "pegs" "I").before args s = true) (hd : decode cc pc = .ok (.putfield index, 3)) (k : ∀ (H1 : Heap) (locs1 : List Loc), zH D Y ad kd RL (va_up M o (upd (M o) 0 v)) J A H0 H1 locs1 s → W p l e R s m args below meth c H1 locs1 cells slots Q (F0 m (pc + 3) ls rest)) : W p l e R s m args below meth c H locs cells slots Q (F0 m pc ls (.int v :: .ref (ad o) :: rest)) := by
  obtain ⟨q0, hq, hk⟩ := zW_get (Y := Y) (ad := ad) (kd := kd) (M := M) (J := J) ((hw.2.2.2.2.2.2.1 o).1 (by omega))
  rw [z_is_2 ho] at hq
  refine va_put (ci := 2) (C := RX2) (T := TX2) (N := 6) (ty := .int) (v := .int v) hx hb hts (fun _ h => h) tyX2 tyX2_ok nmX2 hown hw.2.1 hw.1 hw.2.2.1 hw.2.2.2.1 q0 hq rfl 0 (by decide) hlink (fun _ h => h) rfl (by decide +kernel) (vp_nar_int v) rfl (by simp) hd (fun H1 locs1 hP hD hS => ?_)
  refine k H1 locs1 (hw.next ?_ hS (hw.2.2.2.2.2.2.2.1.upM (by omega)))
  rw [← zW_set (M' := (va_up M o (upd (M o) 0 v))) (J' := J) hw.2.2.1 hk (z_is_2 ho) (fun x hx => zc_other (va_up_ne _ _ hx) (rfl))]
  have e : .inr (2, [.int ((va_up M o (upd (M o) 0 v)) o 0), .int ((va_up M o (upd (M o) 0 v)) o 1), .ref (ad (o + 1)), .ref (ad (o + 2)), .ref (ad (o + 3)), .ref (ad (o + 4))]) = (.inr (2, List.set [.int (M o 0), .int (M o 1), .ref (ad (o + 1)), .ref (ad (o + 2)), .ref (ad (o + 3)), .ref (ad (o + 4))] 0 (.int v)) : va_E) := by simp [va_up_self, List.set, upd, vp_updL]
  rw [e]; exact hP
theorem zg2_worked (hx : p.tables.exec = Jvm.exec) (hb : c.code = cc) (hts : ∀ w ∈ wsX20, w.before args s = true) (hown : s.vm.findClass own = some m.cls) (hw : zH D Y ad kd RL M J A H0 H locs s) (ho : kd o = 2) (hlink : (Cond.fieldLink own index "SlewRails$Rail" "worked" "I").before args s = true) (hd : decode cc pc = .ok (.getfield index, 3)) (k : W p l e R s m args below meth c H locs cells slots Q (F0 m (pc + 3) ls (.int (M o 1) :: rest))) : W p l e R s m args below meth c H locs cells slots Q (F0 m pc ls (.ref (ad o) :: rest)) := by
  obtain ⟨q0, hq, -⟩ := zW_get (Y := Y) (ad := ad) (kd := kd) (M := M) (J := J) ((hw.2.2.2.2.2.2.1 o).1 (by omega))
  rw [z_is_2 ho] at hq
  exact va_get (ci := 2) (C := RX2) (T := TX2) (N := 6) hx hb hts (fun _ h => h) hown hw.2.1 hw.1 q0 hq rfl 1 (by decide) hlink (fun _ h => h) rfl hd k
theorem zp2_worked {v : Int32} (hx : p.tables.exec = Jvm.exec) (hb : c.code = cc) (hts : ∀ w ∈ wsX20, w.before args s = true) (hown : s.vm.findClass own = some m.cls) (hw : zH D Y ad kd RL M J A H0 H locs s) (ho : kd o = 2) (hlink : (Cond.fieldLink own index "SlewRails$Rail" "worked" "I").before args s = true) (hd : decode cc pc = .ok (.putfield index, 3)) (k : ∀ (H1 : Heap) (locs1 : List Loc), zH D Y ad kd RL (va_up M o (upd (M o) 1 v)) J A H0 H1 locs1 s → W p l e R s m args below meth c H1 locs1 cells slots Q (F0 m (pc + 3) ls rest)) : W p l e R s m args below meth c H locs cells slots Q (F0 m pc ls (.int v :: .ref (ad o) :: rest)) := by
  obtain ⟨q0, hq, hk⟩ := zW_get (Y := Y) (ad := ad) (kd := kd) (M := M) (J := J) ((hw.2.2.2.2.2.2.1 o).1 (by omega))
  rw [z_is_2 ho] at hq
  refine va_put (ci := 2) (C := RX2) (T := TX2) (N := 6) (ty := .int) (v := .int v) hx hb hts (fun _ h => h) tyX2 tyX2_ok nmX2 hown hw.2.1 hw.1 hw.2.2.1 hw.2.2.2.1 q0 hq rfl 1 (by decide) hlink (fun _ h => h) rfl (by decide +kernel) (vp_nar_int v) rfl (by simp) hd (fun H1 locs1 hP hD hS => ?_)
  refine k H1 locs1 (hw.next ?_ hS (hw.2.2.2.2.2.2.2.1.upM (by omega)))
  rw [← zW_set (M' := (va_up M o (upd (M o) 1 v))) (J' := J) hw.2.2.1 hk (z_is_2 ho) (fun x hx => zc_other (va_up_ne _ _ hx) (rfl))]
  have e : .inr (2, [.int ((va_up M o (upd (M o) 1 v)) o 0), .int ((va_up M o (upd (M o) 1 v)) o 1), .ref (ad (o + 1)), .ref (ad (o + 2)), .ref (ad (o + 3)), .ref (ad (o + 4))]) = (.inr (2, List.set [.int (M o 0), .int (M o 1), .ref (ad (o + 1)), .ref (ad (o + 2)), .ref (ad (o + 3)), .ref (ad (o + 4))] 1 (.int v)) : va_E) := by simp [va_up_self, List.set, upd, vp_updL]
  rw [e]; exact hP
theorem zg2_kinds (hx : p.tables.exec = Jvm.exec) (hb : c.code = cc) (hts : ∀ w ∈ wsX20, w.before args s = true) (hown : s.vm.findClass own = some m.cls) (hw : zH D Y ad kd RL M J A H0 H locs s) (ho : kd o = 2) (hlink : (Cond.fieldLink own index "SlewRails$Rail" "kinds" "[I").before args s = true) (hd : decode cc pc = .ok (.getfield index, 3)) (k : W p l e R s m args below meth c H locs cells slots Q (F0 m (pc + 3) ls (.ref (ad (o + 1)) :: rest))) : W p l e R s m args below meth c H locs cells slots Q (F0 m pc ls (.ref (ad o) :: rest)) := by
  obtain ⟨q0, hq, -⟩ := zW_get (Y := Y) (ad := ad) (kd := kd) (M := M) (J := J) ((hw.2.2.2.2.2.2.1 o).1 (by omega))
  rw [z_is_2 ho] at hq
  exact va_get (ci := 2) (C := RX2) (T := TX2) (N := 6) hx hb hts (fun _ h => h) hown hw.2.1 hw.1 q0 hq rfl 2 (by decide) hlink (fun _ h => h) rfl hd k
theorem zg2_versines (hx : p.tables.exec = Jvm.exec) (hb : c.code = cc) (hts : ∀ w ∈ wsX20, w.before args s = true) (hown : s.vm.findClass own = some m.cls) (hw : zH D Y ad kd RL M J A H0 H locs s) (ho : kd o = 2) (hlink : (Cond.fieldLink own index "SlewRails$Rail" "versines" "[I").before args s = true) (hd : decode cc pc = .ok (.getfield index, 3)) (k : W p l e R s m args below meth c H locs cells slots Q (F0 m (pc + 3) ls (.ref (ad (o + 2)) :: rest))) : W p l e R s m args below meth c H locs cells slots Q (F0 m pc ls (.ref (ad o) :: rest)) := by
  obtain ⟨q0, hq, -⟩ := zW_get (Y := Y) (ad := ad) (kd := kd) (M := M) (J := J) ((hw.2.2.2.2.2.2.1 o).1 (by omega))
  rw [z_is_2 ho] at hq
  exact va_get (ci := 2) (C := RX2) (T := TX2) (N := 6) hx hb hts (fun _ h => h) hown hw.2.1 hw.1 q0 hq rfl 3 (by decide) hlink (fun _ h => h) rfl hd k
theorem zg2_bounds (hx : p.tables.exec = Jvm.exec) (hb : c.code = cc) (hts : ∀ w ∈ wsX20, w.before args s = true) (hown : s.vm.findClass own = some m.cls) (hw : zH D Y ad kd RL M J A H0 H locs s) (ho : kd o = 2) (hlink : (Cond.fieldLink own index "SlewRails$Rail" "bounds" "[I").before args s = true) (hd : decode cc pc = .ok (.getfield index, 3)) (k : W p l e R s m args below meth c H locs cells slots Q (F0 m (pc + 3) ls (.ref (ad (o + 3)) :: rest))) : W p l e R s m args below meth c H locs cells slots Q (F0 m pc ls (.ref (ad o) :: rest)) := by
  obtain ⟨q0, hq, -⟩ := zW_get (Y := Y) (ad := ad) (kd := kd) (M := M) (J := J) ((hw.2.2.2.2.2.2.1 o).1 (by omega))
  rw [z_is_2 ho] at hq
  exact va_get (ci := 2) (C := RX2) (T := TX2) (N := 6) hx hb hts (fun _ h => h) hown hw.2.1 hw.1 q0 hq rfl 4 (by decide) hlink (fun _ h => h) rfl hd k
theorem zg2_slews (hx : p.tables.exec = Jvm.exec) (hb : c.code = cc) (hts : ∀ w ∈ wsX20, w.before args s = true) (hown : s.vm.findClass own = some m.cls) (hw : zH D Y ad kd RL M J A H0 H locs s) (ho : kd o = 2) (hlink : (Cond.fieldLink own index "SlewRails$Rail" "slews" "[I").before args s = true) (hd : decode cc pc = .ok (.getfield index, 3)) (k : W p l e R s m args below meth c H locs cells slots Q (F0 m (pc + 3) ls (.ref (ad (o + 4)) :: rest))) : W p l e R s m args below meth c H locs cells slots Q (F0 m pc ls (.ref (ad o) :: rest)) := by
  obtain ⟨q0, hq, -⟩ := zW_get (Y := Y) (ad := ad) (kd := kd) (M := M) (J := J) ((hw.2.2.2.2.2.2.1 o).1 (by omega))
  rw [z_is_2 ho] at hq
  exact va_get (ci := 2) (C := RX2) (T := TX2) (N := 6) hx hb hts (fun _ h => h) hown hw.2.1 hw.1 q0 hq rfl 5 (by decide) hlink (fun _ h => h) rfl hd k
theorem z_is_3 (ho : kd o = 3) : zc ad kd Y M J o = .inr (3, [.int (M o 0), .int (M o 1), .ref (ad (o + 1))]) := by unfold zc zv; rw [ho]; rfl
theorem zg3_lane (hx : p.tables.exec = Jvm.exec) (hb : c.code = cc) (hts : ∀ w ∈ wsX30, w.before args s = true) (hown : s.vm.findClass own = some m.cls) (hw : zH D Y ad kd RL M J A H0 H locs s) (ho : kd o = 3) (hlink : (Cond.fieldLink own index "SlewRails$Row" "lane" "I").before args s = true) (hd : decode cc pc = .ok (.getfield index, 3)) (k : W p l e R s m args below meth c H locs cells slots Q (F0 m (pc + 3) ls (.int (M o 0) :: rest))) : W p l e R s m args below meth c H locs cells slots Q (F0 m pc ls (.ref (ad o) :: rest)) := by
  obtain ⟨q0, hq, -⟩ := zW_get (Y := Y) (ad := ad) (kd := kd) (M := M) (J := J) ((hw.2.2.2.2.2.2.1 o).1 (by omega))
  rw [z_is_3 ho] at hq
  exact va_get (ci := 3) (C := RX3) (T := TX3) (N := 3) hx hb hts (fun _ h => h) hown hw.2.1 hw.1 q0 hq rfl 0 (by decide) hlink (fun _ h => h) rfl hd k
theorem zp3_lane {v : Int32} (hx : p.tables.exec = Jvm.exec) (hb : c.code = cc) (hts : ∀ w ∈ wsX30, w.before args s = true) (hown : s.vm.findClass own = some m.cls) (hw : zH D Y ad kd RL M J A H0 H locs s) (ho : kd o = 3) (hlink : (Cond.fieldLink own index "SlewRails$Row" "lane" "I").before args s = true) (hd : decode cc pc = .ok (.putfield index, 3)) (k : ∀ (H1 : Heap) (locs1 : List Loc), zH D Y ad kd RL (va_up M o (upd (M o) 0 v)) J A H0 H1 locs1 s → W p l e R s m args below meth c H1 locs1 cells slots Q (F0 m (pc + 3) ls rest)) : W p l e R s m args below meth c H locs cells slots Q (F0 m pc ls (.int v :: .ref (ad o) :: rest)) := by
  obtain ⟨q0, hq, hk⟩ := zW_get (Y := Y) (ad := ad) (kd := kd) (M := M) (J := J) ((hw.2.2.2.2.2.2.1 o).1 (by omega))
  rw [z_is_3 ho] at hq
  refine va_put (ci := 3) (C := RX3) (T := TX3) (N := 3) (ty := .int) (v := .int v) hx hb hts (fun _ h => h) tyX3 tyX3_ok nmX3 hown hw.2.1 hw.1 hw.2.2.1 hw.2.2.2.1 q0 hq rfl 0 (by decide) hlink (fun _ h => h) rfl (by decide +kernel) (vp_nar_int v) rfl (by simp) hd (fun H1 locs1 hP hD hS => ?_)
  refine k H1 locs1 (hw.next ?_ hS (hw.2.2.2.2.2.2.2.1.upM (by omega)))
  rw [← zW_set (M' := (va_up M o (upd (M o) 0 v))) (J' := J) hw.2.2.1 hk (z_is_3 ho) (fun x hx => zc_other (va_up_ne _ _ hx) (rfl))]
  have e : .inr (3, [.int ((va_up M o (upd (M o) 0 v)) o 0), .int ((va_up M o (upd (M o) 0 v)) o 1), .ref (ad (o + 1))]) = (.inr (3, List.set [.int (M o 0), .int (M o 1), .ref (ad (o + 1))] 0 (.int v)) : va_E) := by simp [va_up_self, List.set, upd, vp_updL]
  rw [e]; exact hP
theorem zg3_size (hx : p.tables.exec = Jvm.exec) (hb : c.code = cc) (hts : ∀ w ∈ wsX30, w.before args s = true) (hown : s.vm.findClass own = some m.cls) (hw : zH D Y ad kd RL M J A H0 H locs s) (ho : kd o = 3) (hlink : (Cond.fieldLink own index "SlewRails$Row" "size" "I").before args s = true) (hd : decode cc pc = .ok (.getfield index, 3)) (k : W p l e R s m args below meth c H locs cells slots Q (F0 m (pc + 3) ls (.int (M o 1) :: rest))) : W p l e R s m args below meth c H locs cells slots Q (F0 m pc ls (.ref (ad o) :: rest)) := by
  obtain ⟨q0, hq, -⟩ := zW_get (Y := Y) (ad := ad) (kd := kd) (M := M) (J := J) ((hw.2.2.2.2.2.2.1 o).1 (by omega))
  rw [z_is_3 ho] at hq
  exact va_get (ci := 3) (C := RX3) (T := TX3) (N := 3) hx hb hts (fun _ h => h) hown hw.2.1 hw.1 q0 hq rfl 1 (by decide) hlink (fun _ h => h) rfl hd k
theorem zp3_size {v : Int32} (hx : p.tables.exec = Jvm.exec) (hb : c.code = cc) (hts : ∀ w ∈ wsX30, w.before args s = true) (hown : s.vm.findClass own = some m.cls) (hw : zH D Y ad kd RL M J A H0 H locs s) (ho : kd o = 3) (hlink : (Cond.fieldLink own index "SlewRails$Row" "size" "I").before args s = true) (hd : decode cc pc = .ok (.putfield index, 3)) (k : ∀ (H1 : Heap) (locs1 : List Loc), zH D Y ad kd RL (va_up M o (upd (M o) 1 v)) J A H0 H1 locs1 s → W p l e R s m args below meth c H1 locs1 cells slots Q (F0 m (pc + 3) ls rest)) : W p l e R s m args below meth c H locs cells slots Q (F0 m pc ls (.int v :: .ref (ad o) :: rest)) := by
  obtain ⟨q0, hq, hk⟩ := zW_get (Y := Y) (ad := ad) (kd := kd) (M := M) (J := J) ((hw.2.2.2.2.2.2.1 o).1 (by omega))
  rw [z_is_3 ho] at hq
  refine va_put (ci := 3) (C := RX3) (T := TX3) (N := 3) (ty := .int) (v := .int v) hx hb hts (fun _ h => h) tyX3 tyX3_ok nmX3 hown hw.2.1 hw.1 hw.2.2.1 hw.2.2.2.1 q0 hq rfl 1 (by decide) hlink (fun _ h => h) rfl (by decide +kernel) (vp_nar_int v) rfl (by simp) hd (fun H1 locs1 hP hD hS => ?_)
  refine k H1 locs1 (hw.next ?_ hS (hw.2.2.2.2.2.2.2.1.upM (by omega)))
  rw [← zW_set (M' := (va_up M o (upd (M o) 1 v))) (J' := J) hw.2.2.1 hk (z_is_3 ho) (fun x hx => zc_other (va_up_ne _ _ hx) (rfl))]
  have e : .inr (3, [.int ((va_up M o (upd (M o) 1 v)) o 0), .int ((va_up M o (upd (M o) 1 v)) o 1), .ref (ad (o + 1))]) = (.inr (3, List.set [.int (M o 0), .int (M o 1), .ref (ad (o + 1))] 1 (.int v)) : va_E) := by simp [va_up_self, List.set, upd, vp_updL]
  rw [e]; exact hP
theorem zg3_items (hx : p.tables.exec = Jvm.exec) (hb : c.code = cc) (hts : ∀ w ∈ wsX30, w.before args s = true) (hown : s.vm.findClass own = some m.cls) (hw : zH D Y ad kd RL M J A H0 H locs s) (ho : kd o = 3) (hlink : (Cond.fieldLink own index "SlewRails$Row" "items" "[I").before args s = true) (hd : decode cc pc = .ok (.getfield index, 3)) (k : W p l e R s m args below meth c H locs cells slots Q (F0 m (pc + 3) ls (.ref (ad (o + 1)) :: rest))) : W p l e R s m args below meth c H locs cells slots Q (F0 m pc ls (.ref (ad o) :: rest)) := by
  obtain ⟨q0, hq, -⟩ := zW_get (Y := Y) (ad := ad) (kd := kd) (M := M) (J := J) ((hw.2.2.2.2.2.2.1 o).1 (by omega))
  rw [z_is_3 ho] at hq
  exact va_get (ci := 3) (C := RX3) (T := TX3) (N := 3) hx hb hts (fun _ h => h) hown hw.2.1 hw.1 q0 hq rfl 2 (by decide) hlink (fun _ h => h) rfl hd k
theorem z_is_4 (ho : kd o = 4) : zc ad kd Y M J o = .inr (4, [.ref (ad (o + 1)), .ref (ad (o + 6)), .ref (ad (o + 7)), .int (M o 0), .int (M o 1), .int (M o 2), .int (M o 3)]) := by unfold zc zv; rw [ho]; rfl
theorem zg4_known (hx : p.tables.exec = Jvm.exec) (hb : c.code = cc) (hts : ∀ w ∈ wsX40, w.before args s = true) (hown : s.vm.findClass own = some m.cls) (hw : zH D Y ad kd RL M J A H0 H locs s) (ho : kd o = 4) (hlink : (Cond.fieldLink own index "SlewRails$Search" "known" "LSlewRails$Rail;").before args s = true) (hd : decode cc pc = .ok (.getfield index, 3)) (k : W p l e R s m args below meth c H locs cells slots Q (F0 m (pc + 3) ls (.ref (ad (o + 1)) :: rest))) : W p l e R s m args below meth c H locs cells slots Q (F0 m pc ls (.ref (ad o) :: rest)) := by
  obtain ⟨q0, hq, -⟩ := zW_get (Y := Y) (ad := ad) (kd := kd) (M := M) (J := J) ((hw.2.2.2.2.2.2.1 o).1 (by omega))
  rw [z_is_4 ho] at hq
  exact va_get (ci := 4) (C := RX4) (T := TX4) (N := 7) hx hb hts (fun _ h => h) hown hw.2.1 hw.1 q0 hq rfl 0 (by decide) hlink (fun _ h => h) rfl hd k
theorem zg4_table (hx : p.tables.exec = Jvm.exec) (hb : c.code = cc) (hts : ∀ w ∈ wsX40, w.before args s = true) (hown : s.vm.findClass own = some m.cls) (hw : zH D Y ad kd RL M J A H0 H locs s) (ho : kd o = 4) (hlink : (Cond.fieldLink own index "SlewRails$Search" "table" "[I").before args s = true) (hd : decode cc pc = .ok (.getfield index, 3)) (k : W p l e R s m args below meth c H locs cells slots Q (F0 m (pc + 3) ls (.ref (ad (o + 6)) :: rest))) : W p l e R s m args below meth c H locs cells slots Q (F0 m pc ls (.ref (ad o) :: rest)) := by
  obtain ⟨q0, hq, -⟩ := zW_get (Y := Y) (ad := ad) (kd := kd) (M := M) (J := J) ((hw.2.2.2.2.2.2.1 o).1 (by omega))
  rw [z_is_4 ho] at hq
  exact va_get (ci := 4) (C := RX4) (T := TX4) (N := 7) hx hb hts (fun _ h => h) hown hw.2.1 hw.1 q0 hq rfl 1 (by decide) hlink (fun _ h => h) rfl hd k
theorem zg4_slews (hx : p.tables.exec = Jvm.exec) (hb : c.code = cc) (hts : ∀ w ∈ wsX40, w.before args s = true) (hown : s.vm.findClass own = some m.cls) (hw : zH D Y ad kd RL M J A H0 H locs s) (ho : kd o = 4) (hlink : (Cond.fieldLink own index "SlewRails$Search" "slews" "[I").before args s = true) (hd : decode cc pc = .ok (.getfield index, 3)) (k : W p l e R s m args below meth c H locs cells slots Q (F0 m (pc + 3) ls (.ref (ad (o + 7)) :: rest))) : W p l e R s m args below meth c H locs cells slots Q (F0 m pc ls (.ref (ad o) :: rest)) := by
  obtain ⟨q0, hq, -⟩ := zW_get (Y := Y) (ad := ad) (kd := kd) (M := M) (J := J) ((hw.2.2.2.2.2.2.1 o).1 (by omega))
  rw [z_is_4 ho] at hq
  exact va_get (ci := 4) (C := RX4) (T := TX4) (N := 7) hx hb hts (fun _ h => h) hown hw.2.1 hw.1 q0 hq rfl 2 (by decide) hlink (fun _ h => h) rfl hd k
theorem zg4_worst (hx : p.tables.exec = Jvm.exec) (hb : c.code = cc) (hts : ∀ w ∈ wsX40, w.before args s = true) (hown : s.vm.findClass own = some m.cls) (hw : zH D Y ad kd RL M J A H0 H locs s) (ho : kd o = 4) (hlink : (Cond.fieldLink own index "SlewRails$Search" "worst" "I").before args s = true) (hd : decode cc pc = .ok (.getfield index, 3)) (k : W p l e R s m args below meth c H locs cells slots Q (F0 m (pc + 3) ls (.int (M o 0) :: rest))) : W p l e R s m args below meth c H locs cells slots Q (F0 m pc ls (.ref (ad o) :: rest)) := by
  obtain ⟨q0, hq, -⟩ := zW_get (Y := Y) (ad := ad) (kd := kd) (M := M) (J := J) ((hw.2.2.2.2.2.2.1 o).1 (by omega))
  rw [z_is_4 ho] at hq
  exact va_get (ci := 4) (C := RX4) (T := TX4) (N := 7) hx hb hts (fun _ h => h) hown hw.2.1 hw.1 q0 hq rfl 3 (by decide) hlink (fun _ h => h) rfl hd k
theorem zp4_worst {v : Int32} (hx : p.tables.exec = Jvm.exec) (hb : c.code = cc) (hts : ∀ w ∈ wsX40, w.before args s = true) (hown : s.vm.findClass own = some m.cls) (hw : zH D Y ad kd RL M J A H0 H locs s) (ho : kd o = 4) (hlink : (Cond.fieldLink own index "SlewRails$Search" "worst" "I").before args s = true) (hd : decode cc pc = .ok (.putfield index, 3)) (k : ∀ (H1 : Heap) (locs1 : List Loc), zH D Y ad kd RL (va_up M o (upd (M o) 0 v)) J A H0 H1 locs1 s → W p l e R s m args below meth c H1 locs1 cells slots Q (F0 m (pc + 3) ls rest)) : W p l e R s m args below meth c H locs cells slots Q (F0 m pc ls (.int v :: .ref (ad o) :: rest)) := by
  obtain ⟨q0, hq, hk⟩ := zW_get (Y := Y) (ad := ad) (kd := kd) (M := M) (J := J) ((hw.2.2.2.2.2.2.1 o).1 (by omega))
  rw [z_is_4 ho] at hq
  refine va_put (ci := 4) (C := RX4) (T := TX4) (N := 7) (ty := .int) (v := .int v) hx hb hts (fun _ h => h) tyX4 tyX4_ok nmX4 hown hw.2.1 hw.1 hw.2.2.1 hw.2.2.2.1 q0 hq rfl 3 (by decide) hlink (fun _ h => h) rfl (by decide +kernel) (vp_nar_int v) rfl (by simp) hd (fun H1 locs1 hP hD hS => ?_)
  refine k H1 locs1 (hw.next ?_ hS (hw.2.2.2.2.2.2.2.1.upM (by omega)))
  rw [← zW_set (M' := (va_up M o (upd (M o) 0 v))) (J' := J) hw.2.2.1 hk (z_is_4 ho) (fun x hx => zc_other (va_up_ne _ _ hx) (rfl))]
  have e : .inr (4, [.ref (ad (o + 1)), .ref (ad (o + 6)), .ref (ad (o + 7)), .int ((va_up M o (upd (M o) 0 v)) o 0), .int ((va_up M o (upd (M o) 0 v)) o 1), .int ((va_up M o (upd (M o) 0 v)) o 2), .int ((va_up M o (upd (M o) 0 v)) o 3)]) = (.inr (4, List.set [.ref (ad (o + 1)), .ref (ad (o + 6)), .ref (ad (o + 7)), .int (M o 0), .int (M o 1), .int (M o 2), .int (M o 3)] 3 (.int v)) : va_E) := by simp [va_up_self, List.set, upd, vp_updL]
  rw [e]; exact hP
theorem zg4_uneven (hx : p.tables.exec = Jvm.exec) (hb : c.code = cc) (hts : ∀ w ∈ wsX40, w.before args s = true) (hown : s.vm.findClass own = some m.cls) (hw : zH D Y ad kd RL M J A H0 H locs s) (ho : kd o = 4) (hlink : (Cond.fieldLink own index "SlewRails$Search" "uneven" "I").before args s = true) (hd : decode cc pc = .ok (.getfield index, 3)) (k : W p l e R s m args below meth c H locs cells slots Q (F0 m (pc + 3) ls (.int (M o 1) :: rest))) : W p l e R s m args below meth c H locs cells slots Q (F0 m pc ls (.ref (ad o) :: rest)) := by
  obtain ⟨q0, hq, -⟩ := zW_get (Y := Y) (ad := ad) (kd := kd) (M := M) (J := J) ((hw.2.2.2.2.2.2.1 o).1 (by omega))
  rw [z_is_4 ho] at hq
  exact va_get (ci := 4) (C := RX4) (T := TX4) (N := 7) hx hb hts (fun _ h => h) hown hw.2.1 hw.1 q0 hq rfl 4 (by decide) hlink (fun _ h => h) rfl hd k
theorem zp4_uneven {v : Int32} (hx : p.tables.exec = Jvm.exec) (hb : c.code = cc) (hts : ∀ w ∈ wsX40, w.before args s = true) (hown : s.vm.findClass own = some m.cls) (hw : zH D Y ad kd RL M J A H0 H locs s) (ho : kd o = 4) (hlink : (Cond.fieldLink own index "SlewRails$Search" "uneven" "I").before args s = true) (hd : decode cc pc = .ok (.putfield index, 3)) (k : ∀ (H1 : Heap) (locs1 : List Loc), zH D Y ad kd RL (va_up M o (upd (M o) 1 v)) J A H0 H1 locs1 s → W p l e R s m args below meth c H1 locs1 cells slots Q (F0 m (pc + 3) ls rest)) : W p l e R s m args below meth c H locs cells slots Q (F0 m pc ls (.int v :: .ref (ad o) :: rest)) := by
  obtain ⟨q0, hq, hk⟩ := zW_get (Y := Y) (ad := ad) (kd := kd) (M := M) (J := J) ((hw.2.2.2.2.2.2.1 o).1 (by omega))
  rw [z_is_4 ho] at hq
  refine va_put (ci := 4) (C := RX4) (T := TX4) (N := 7) (ty := .int) (v := .int v) hx hb hts (fun _ h => h) tyX4 tyX4_ok nmX4 hown hw.2.1 hw.1 hw.2.2.1 hw.2.2.2.1 q0 hq rfl 4 (by decide) hlink (fun _ h => h) rfl (by decide +kernel) (vp_nar_int v) rfl (by simp) hd (fun H1 locs1 hP hD hS => ?_)
  refine k H1 locs1 (hw.next ?_ hS (hw.2.2.2.2.2.2.2.1.upM (by omega)))
  rw [← zW_set (M' := (va_up M o (upd (M o) 1 v))) (J' := J) hw.2.2.1 hk (z_is_4 ho) (fun x hx => zc_other (va_up_ne _ _ hx) (rfl))]
  have e : .inr (4, [.ref (ad (o + 1)), .ref (ad (o + 6)), .ref (ad (o + 7)), .int ((va_up M o (upd (M o) 1 v)) o 0), .int ((va_up M o (upd (M o) 1 v)) o 1), .int ((va_up M o (upd (M o) 1 v)) o 2), .int ((va_up M o (upd (M o) 1 v)) o 3)]) = (.inr (4, List.set [.ref (ad (o + 1)), .ref (ad (o + 6)), .ref (ad (o + 7)), .int (M o 0), .int (M o 1), .int (M o 2), .int (M o 3)] 4 (.int v)) : va_E) := by simp [va_up_self, List.set, upd, vp_updL]
  rw [e]; exact hP
theorem zg4_moved (hx : p.tables.exec = Jvm.exec) (hb : c.code = cc) (hts : ∀ w ∈ wsX40, w.before args s = true) (hown : s.vm.findClass own = some m.cls) (hw : zH D Y ad kd RL M J A H0 H locs s) (ho : kd o = 4) (hlink : (Cond.fieldLink own index "SlewRails$Search" "moved" "I").before args s = true) (hd : decode cc pc = .ok (.getfield index, 3)) (k : W p l e R s m args below meth c H locs cells slots Q (F0 m (pc + 3) ls (.int (M o 2) :: rest))) : W p l e R s m args below meth c H locs cells slots Q (F0 m pc ls (.ref (ad o) :: rest)) := by
  obtain ⟨q0, hq, -⟩ := zW_get (Y := Y) (ad := ad) (kd := kd) (M := M) (J := J) ((hw.2.2.2.2.2.2.1 o).1 (by omega))
  rw [z_is_4 ho] at hq
  exact va_get (ci := 4) (C := RX4) (T := TX4) (N := 7) hx hb hts (fun _ h => h) hown hw.2.1 hw.1 q0 hq rfl 5 (by decide) hlink (fun _ h => h) rfl hd k
theorem zp4_moved {v : Int32} (hx : p.tables.exec = Jvm.exec) (hb : c.code = cc) (hts : ∀ w ∈ wsX40, w.before args s = true) (hown : s.vm.findClass own = some m.cls) (hw : zH D Y ad kd RL M J A H0 H locs s) (ho : kd o = 4) (hlink : (Cond.fieldLink own index "SlewRails$Search" "moved" "I").before args s = true) (hd : decode cc pc = .ok (.putfield index, 3)) (k : ∀ (H1 : Heap) (locs1 : List Loc), zH D Y ad kd RL (va_up M o (upd (M o) 2 v)) J A H0 H1 locs1 s → W p l e R s m args below meth c H1 locs1 cells slots Q (F0 m (pc + 3) ls rest)) : W p l e R s m args below meth c H locs cells slots Q (F0 m pc ls (.int v :: .ref (ad o) :: rest)) := by
  obtain ⟨q0, hq, hk⟩ := zW_get (Y := Y) (ad := ad) (kd := kd) (M := M) (J := J) ((hw.2.2.2.2.2.2.1 o).1 (by omega))
  rw [z_is_4 ho] at hq
  refine va_put (ci := 4) (C := RX4) (T := TX4) (N := 7) (ty := .int) (v := .int v) hx hb hts (fun _ h => h) tyX4 tyX4_ok nmX4 hown hw.2.1 hw.1 hw.2.2.1 hw.2.2.2.1 q0 hq rfl 5 (by decide) hlink (fun _ h => h) rfl (by decide +kernel) (vp_nar_int v) rfl (by simp) hd (fun H1 locs1 hP hD hS => ?_)
  refine k H1 locs1 (hw.next ?_ hS (hw.2.2.2.2.2.2.2.1.upM (by omega)))
  rw [← zW_set (M' := (va_up M o (upd (M o) 2 v))) (J' := J) hw.2.2.1 hk (z_is_4 ho) (fun x hx => zc_other (va_up_ne _ _ hx) (rfl))]
  have e : .inr (4, [.ref (ad (o + 1)), .ref (ad (o + 6)), .ref (ad (o + 7)), .int ((va_up M o (upd (M o) 2 v)) o 0), .int ((va_up M o (upd (M o) 2 v)) o 1), .int ((va_up M o (upd (M o) 2 v)) o 2), .int ((va_up M o (upd (M o) 2 v)) o 3)]) = (.inr (4, List.set [.ref (ad (o + 1)), .ref (ad (o + 6)), .ref (ad (o + 7)), .int (M o 0), .int (M o 1), .int (M o 2), .int (M o 3)] 5 (.int v)) : va_E) := by simp [va_up_self, List.set, upd, vp_updL]
  rw [e]; exact hP
theorem zg4_limit (hx : p.tables.exec = Jvm.exec) (hb : c.code = cc) (hts : ∀ w ∈ wsX40, w.before args s = true) (hown : s.vm.findClass own = some m.cls) (hw : zH D Y ad kd RL M J A H0 H locs s) (ho : kd o = 4) (hlink : (Cond.fieldLink own index "SlewRails$Search" "limit" "I").before args s = true) (hd : decode cc pc = .ok (.getfield index, 3)) (k : W p l e R s m args below meth c H locs cells slots Q (F0 m (pc + 3) ls (.int (M o 3) :: rest))) : W p l e R s m args below meth c H locs cells slots Q (F0 m pc ls (.ref (ad o) :: rest)) := by
  obtain ⟨q0, hq, -⟩ := zW_get (Y := Y) (ad := ad) (kd := kd) (M := M) (J := J) ((hw.2.2.2.2.2.2.1 o).1 (by omega))
  rw [z_is_4 ho] at hq
  exact va_get (ci := 4) (C := RX4) (T := TX4) (N := 7) hx hb hts (fun _ h => h) hown hw.2.1 hw.1 q0 hq rfl 6 (by decide) hlink (fun _ h => h) rfl hd k
theorem zp4_limit {v : Int32} (hx : p.tables.exec = Jvm.exec) (hb : c.code = cc) (hts : ∀ w ∈ wsX40, w.before args s = true) (hown : s.vm.findClass own = some m.cls) (hw : zH D Y ad kd RL M J A H0 H locs s) (ho : kd o = 4) (hlink : (Cond.fieldLink own index "SlewRails$Search" "limit" "I").before args s = true) (hd : decode cc pc = .ok (.putfield index, 3)) (k : ∀ (H1 : Heap) (locs1 : List Loc), zH D Y ad kd RL (va_up M o (upd (M o) 3 v)) J A H0 H1 locs1 s → W p l e R s m args below meth c H1 locs1 cells slots Q (F0 m (pc + 3) ls rest)) : W p l e R s m args below meth c H locs cells slots Q (F0 m pc ls (.int v :: .ref (ad o) :: rest)) := by
  obtain ⟨q0, hq, hk⟩ := zW_get (Y := Y) (ad := ad) (kd := kd) (M := M) (J := J) ((hw.2.2.2.2.2.2.1 o).1 (by omega))
  rw [z_is_4 ho] at hq
  refine va_put (ci := 4) (C := RX4) (T := TX4) (N := 7) (ty := .int) (v := .int v) hx hb hts (fun _ h => h) tyX4 tyX4_ok nmX4 hown hw.2.1 hw.1 hw.2.2.1 hw.2.2.2.1 q0 hq rfl 6 (by decide) hlink (fun _ h => h) rfl (by decide +kernel) (vp_nar_int v) rfl (by simp) hd (fun H1 locs1 hP hD hS => ?_)
  refine k H1 locs1 (hw.next ?_ hS (hw.2.2.2.2.2.2.2.1.upM (by omega)))
  rw [← zW_set (M' := (va_up M o (upd (M o) 3 v))) (J' := J) hw.2.2.1 hk (z_is_4 ho) (fun x hx => zc_other (va_up_ne _ _ hx) (rfl))]
  have e : .inr (4, [.ref (ad (o + 1)), .ref (ad (o + 6)), .ref (ad (o + 7)), .int ((va_up M o (upd (M o) 3 v)) o 0), .int ((va_up M o (upd (M o) 3 v)) o 1), .int ((va_up M o (upd (M o) 3 v)) o 2), .int ((va_up M o (upd (M o) 3 v)) o 3)]) = (.inr (4, List.set [.ref (ad (o + 1)), .ref (ad (o + 6)), .ref (ad (o + 7)), .int (M o 0), .int (M o 1), .int (M o 2), .int (M o 3)] 6 (.int v)) : va_E) := by simp [va_up_self, List.set, upd, vp_updL]
  rw [e]; exact hP
theorem z_is_5 (ho : kd o = 5) : zc ad kd Y M J o = .inr (5, [.long (J o 0), .long (J o 1), .ref (ad (zw (M o 1) o)), .ref (ad (zw (M o 2) o)), .int (M o 0)]) := by unfold zc zv; rw [ho]; rfl
theorem zg5_above (hx : p.tables.exec = Jvm.exec) (hb : c.code = cc) (hts : ∀ w ∈ wsX50, w.before args s = true) (hown : s.vm.findClass own = some m.cls) (hw : zH D Y ad kd RL M J A H0 H locs s) (ho : kd o = 5) (hlink : (Cond.fieldLink own index "SlewRails$Settling" "above" "J").before args s = true) (hd : decode cc pc = .ok (.getfield index, 3)) (k : W p l e R s m args below meth c H locs cells slots Q (F0 m (pc + 3) ls (.long (J o 0) :: rest))) : W p l e R s m args below meth c H locs cells slots Q (F0 m pc ls (.ref (ad o) :: rest)) := by
  obtain ⟨q0, hq, -⟩ := zW_get (Y := Y) (ad := ad) (kd := kd) (M := M) (J := J) ((hw.2.2.2.2.2.2.1 o).1 (by omega))
  rw [z_is_5 ho] at hq
  exact va_get (ci := 5) (C := RX5) (T := TX5) (N := 5) hx hb hts (fun _ h => h) hown hw.2.1 hw.1 q0 hq rfl 0 (by decide) hlink (fun _ h => h) rfl hd k
theorem zp5_above {v : Int64} (hx : p.tables.exec = Jvm.exec) (hb : c.code = cc) (hts : ∀ w ∈ wsX50, w.before args s = true) (hown : s.vm.findClass own = some m.cls) (hw : zH D Y ad kd RL M J A H0 H locs s) (ho : kd o = 5) (hlink : (Cond.fieldLink own index "SlewRails$Settling" "above" "J").before args s = true) (hd : decode cc pc = .ok (.putfield index, 3)) (k : ∀ (H1 : Heap) (locs1 : List Loc), zH D Y ad kd RL M (va_up J o (vp_updL (J o) 0 v)) A H0 H1 locs1 s → W p l e R s m args below meth c H1 locs1 cells slots Q (F0 m (pc + 3) ls rest)) : W p l e R s m args below meth c H locs cells slots Q (F0 m pc ls (.long v :: .ref (ad o) :: rest)) := by
  obtain ⟨q0, hq, hk⟩ := zW_get (Y := Y) (ad := ad) (kd := kd) (M := M) (J := J) ((hw.2.2.2.2.2.2.1 o).1 (by omega))
  rw [z_is_5 ho] at hq
  refine va_put (ci := 5) (C := RX5) (T := TX5) (N := 5) (ty := .long) (v := .long v) hx hb hts (fun _ h => h) tyX5 tyX5_ok nmX5 hown hw.2.1 hw.1 hw.2.2.1 hw.2.2.2.1 q0 hq rfl 0 (by decide) hlink (fun _ h => h) rfl (by decide +kernel) (rfl) rfl (by simp) hd (fun H1 locs1 hP hD hS => ?_)
  refine k H1 locs1 (hw.next ?_ hS (hw.2.2.2.2.2.2.2.1.upJ (by omega)))
  rw [← zW_set (M' := M) (J' := (va_up J o (vp_updL (J o) 0 v))) hw.2.2.1 hk (z_is_5 ho) (fun x hx => zc_other (rfl) (va_up_ne _ _ hx))]
  have e : .inr (5, [.long ((va_up J o (vp_updL (J o) 0 v)) o 0), .long ((va_up J o (vp_updL (J o) 0 v)) o 1), .ref (ad (zw (M o 1) o)), .ref (ad (zw (M o 2) o)), .int (M o 0)]) = (.inr (5, List.set [.long (J o 0), .long (J o 1), .ref (ad (zw (M o 1) o)), .ref (ad (zw (M o 2) o)), .int (M o 0)] 0 (.long v)) : va_E) := by simp [va_up_self, List.set, upd, vp_updL]
  rw [e]; exact hP
theorem zg5_below (hx : p.tables.exec = Jvm.exec) (hb : c.code = cc) (hts : ∀ w ∈ wsX50, w.before args s = true) (hown : s.vm.findClass own = some m.cls) (hw : zH D Y ad kd RL M J A H0 H locs s) (ho : kd o = 5) (hlink : (Cond.fieldLink own index "SlewRails$Settling" "below" "J").before args s = true) (hd : decode cc pc = .ok (.getfield index, 3)) (k : W p l e R s m args below meth c H locs cells slots Q (F0 m (pc + 3) ls (.long (J o 1) :: rest))) : W p l e R s m args below meth c H locs cells slots Q (F0 m pc ls (.ref (ad o) :: rest)) := by
  obtain ⟨q0, hq, -⟩ := zW_get (Y := Y) (ad := ad) (kd := kd) (M := M) (J := J) ((hw.2.2.2.2.2.2.1 o).1 (by omega))
  rw [z_is_5 ho] at hq
  exact va_get (ci := 5) (C := RX5) (T := TX5) (N := 5) hx hb hts (fun _ h => h) hown hw.2.1 hw.1 q0 hq rfl 1 (by decide) hlink (fun _ h => h) rfl hd k
theorem zp5_below {v : Int64} (hx : p.tables.exec = Jvm.exec) (hb : c.code = cc) (hts : ∀ w ∈ wsX50, w.before args s = true) (hown : s.vm.findClass own = some m.cls) (hw : zH D Y ad kd RL M J A H0 H locs s) (ho : kd o = 5) (hlink : (Cond.fieldLink own index "SlewRails$Settling" "below" "J").before args s = true) (hd : decode cc pc = .ok (.putfield index, 3)) (k : ∀ (H1 : Heap) (locs1 : List Loc), zH D Y ad kd RL M (va_up J o (vp_updL (J o) 1 v)) A H0 H1 locs1 s → W p l e R s m args below meth c H1 locs1 cells slots Q (F0 m (pc + 3) ls rest)) : W p l e R s m args below meth c H locs cells slots Q (F0 m pc ls (.long v :: .ref (ad o) :: rest)) := by
  obtain ⟨q0, hq, hk⟩ := zW_get (Y := Y) (ad := ad) (kd := kd) (M := M) (J := J) ((hw.2.2.2.2.2.2.1 o).1 (by omega))
  rw [z_is_5 ho] at hq
  refine va_put (ci := 5) (C := RX5) (T := TX5) (N := 5) (ty := .long) (v := .long v) hx hb hts (fun _ h => h) tyX5 tyX5_ok nmX5 hown hw.2.1 hw.1 hw.2.2.1 hw.2.2.2.1 q0 hq rfl 1 (by decide) hlink (fun _ h => h) rfl (by decide +kernel) (rfl) rfl (by simp) hd (fun H1 locs1 hP hD hS => ?_)
  refine k H1 locs1 (hw.next ?_ hS (hw.2.2.2.2.2.2.2.1.upJ (by omega)))
  rw [← zW_set (M' := M) (J' := (va_up J o (vp_updL (J o) 1 v))) hw.2.2.1 hk (z_is_5 ho) (fun x hx => zc_other (rfl) (va_up_ne _ _ hx))]
  have e : .inr (5, [.long ((va_up J o (vp_updL (J o) 1 v)) o 0), .long ((va_up J o (vp_updL (J o) 1 v)) o 1), .ref (ad (zw (M o 1) o)), .ref (ad (zw (M o 2) o)), .int (M o 0)]) = (.inr (5, List.set [.long (J o 0), .long (J o 1), .ref (ad (zw (M o 1) o)), .ref (ad (zw (M o 2) o)), .int (M o 0)] 1 (.long v)) : va_E) := by simp [va_up_self, List.set, upd, vp_updL]
  rw [e]; exact hP
theorem zg5_ways (hx : p.tables.exec = Jvm.exec) (hb : c.code = cc) (hts : ∀ w ∈ wsX50, w.before args s = true) (hown : s.vm.findClass own = some m.cls) (hw : zH D Y ad kd RL M J A H0 H locs s) (ho : kd o = 5) (hlink : (Cond.fieldLink own index "SlewRails$Settling" "ways" "[J").before args s = true) (hd : decode cc pc = .ok (.getfield index, 3)) (k : W p l e R s m args below meth c H locs cells slots Q (F0 m (pc + 3) ls (.ref (ad (zw (M o 1) o)) :: rest))) : W p l e R s m args below meth c H locs cells slots Q (F0 m pc ls (.ref (ad o) :: rest)) := by
  obtain ⟨q0, hq, -⟩ := zW_get (Y := Y) (ad := ad) (kd := kd) (M := M) (J := J) ((hw.2.2.2.2.2.2.1 o).1 (by omega))
  rw [z_is_5 ho] at hq
  exact va_get (ci := 5) (C := RX5) (T := TX5) (N := 5) hx hb hts (fun _ h => h) hown hw.2.1 hw.1 q0 hq rfl 2 (by decide) hlink (fun _ h => h) rfl hd k
theorem zp5_ways {v : Int32} (hx : p.tables.exec = Jvm.exec) (hb : c.code = cc) (hts : ∀ w ∈ wsX50, w.before args s = true) (hown : s.vm.findClass own = some m.cls) (hw : zH D Y ad kd RL M J A H0 H locs s) (ho : kd o = 5) (hlink : (Cond.fieldLink own index "SlewRails$Settling" "ways" "[J").before args s = true) (hd : decode cc pc = .ok (.putfield index, 3)) (k : ∀ (H1 : Heap) (locs1 : List Loc), zH D Y ad kd RL (va_up M o (upd (M o) 1 v)) J A H0 H1 locs1 s → W p l e R s m args below meth c H1 locs1 cells slots Q (F0 m (pc + 3) ls rest)) : W p l e R s m args below meth c H locs cells slots Q (F0 m pc ls (.ref (ad (zw v o)) :: .ref (ad o) :: rest)) := by
  obtain ⟨q0, hq, hk⟩ := zW_get (Y := Y) (ad := ad) (kd := kd) (M := M) (J := J) ((hw.2.2.2.2.2.2.1 o).1 (by omega))
  rw [z_is_5 ho] at hq
  refine va_put (ci := 5) (C := RX5) (T := TX5) (N := 5) (ty := (.array .long)) (v := .ref (ad (zw v o))) hx hb hts (fun _ h => h) tyX5 tyX5_ok nmX5 hown hw.2.1 hw.1 hw.2.2.1 hw.2.2.2.1 q0 hq rfl 2 (by decide) hlink (fun _ h => h) rfl (by decide +kernel) (rfl) rfl (by simp) hd (fun H1 locs1 hP hD hS => ?_)
  refine k H1 locs1 (hw.next ?_ hS (hw.2.2.2.2.2.2.2.1.upM (by omega)))
  rw [← zW_set (M' := (va_up M o (upd (M o) 1 v))) (J' := J) hw.2.2.1 hk (z_is_5 ho) (fun x hx => zc_other (va_up_ne _ _ hx) (rfl))]
  have e : .inr (5, [.long (J o 0), .long (J o 1), .ref (ad (zw ((va_up M o (upd (M o) 1 v)) o 1) o)), .ref (ad (zw ((va_up M o (upd (M o) 1 v)) o 2) o)), .int ((va_up M o (upd (M o) 1 v)) o 0)]) = (.inr (5, List.set [.long (J o 0), .long (J o 1), .ref (ad (zw (M o 1) o)), .ref (ad (zw (M o 2) o)), .int (M o 0)] 2 (.ref (ad (zw v o)))) : va_E) := by simp [va_up_self, List.set, upd, vp_updL]
  rw [e]; exact hP
theorem zg5_waysOn (hx : p.tables.exec = Jvm.exec) (hb : c.code = cc) (hts : ∀ w ∈ wsX50, w.before args s = true) (hown : s.vm.findClass own = some m.cls) (hw : zH D Y ad kd RL M J A H0 H locs s) (ho : kd o = 5) (hlink : (Cond.fieldLink own index "SlewRails$Settling" "waysOn" "[J").before args s = true) (hd : decode cc pc = .ok (.getfield index, 3)) (k : W p l e R s m args below meth c H locs cells slots Q (F0 m (pc + 3) ls (.ref (ad (zw (M o 2) o)) :: rest))) : W p l e R s m args below meth c H locs cells slots Q (F0 m pc ls (.ref (ad o) :: rest)) := by
  obtain ⟨q0, hq, -⟩ := zW_get (Y := Y) (ad := ad) (kd := kd) (M := M) (J := J) ((hw.2.2.2.2.2.2.1 o).1 (by omega))
  rw [z_is_5 ho] at hq
  exact va_get (ci := 5) (C := RX5) (T := TX5) (N := 5) hx hb hts (fun _ h => h) hown hw.2.1 hw.1 q0 hq rfl 3 (by decide) hlink (fun _ h => h) rfl hd k
theorem zp5_waysOn {v : Int32} (hx : p.tables.exec = Jvm.exec) (hb : c.code = cc) (hts : ∀ w ∈ wsX50, w.before args s = true) (hown : s.vm.findClass own = some m.cls) (hw : zH D Y ad kd RL M J A H0 H locs s) (ho : kd o = 5) (hlink : (Cond.fieldLink own index "SlewRails$Settling" "waysOn" "[J").before args s = true) (hd : decode cc pc = .ok (.putfield index, 3)) (k : ∀ (H1 : Heap) (locs1 : List Loc), zH D Y ad kd RL (va_up M o (upd (M o) 2 v)) J A H0 H1 locs1 s → W p l e R s m args below meth c H1 locs1 cells slots Q (F0 m (pc + 3) ls rest)) : W p l e R s m args below meth c H locs cells slots Q (F0 m pc ls (.ref (ad (zw v o)) :: .ref (ad o) :: rest)) := by
  obtain ⟨q0, hq, hk⟩ := zW_get (Y := Y) (ad := ad) (kd := kd) (M := M) (J := J) ((hw.2.2.2.2.2.2.1 o).1 (by omega))
  rw [z_is_5 ho] at hq
  refine va_put (ci := 5) (C := RX5) (T := TX5) (N := 5) (ty := (.array .long)) (v := .ref (ad (zw v o))) hx hb hts (fun _ h => h) tyX5 tyX5_ok nmX5 hown hw.2.1 hw.1 hw.2.2.1 hw.2.2.2.1 q0 hq rfl 3 (by decide) hlink (fun _ h => h) rfl (by decide +kernel) (rfl) rfl (by simp) hd (fun H1 locs1 hP hD hS => ?_)
  refine k H1 locs1 (hw.next ?_ hS (hw.2.2.2.2.2.2.2.1.upM (by omega)))
  rw [← zW_set (M' := (va_up M o (upd (M o) 2 v))) (J' := J) hw.2.2.1 hk (z_is_5 ho) (fun x hx => zc_other (va_up_ne _ _ hx) (rfl))]
  have e : .inr (5, [.long (J o 0), .long (J o 1), .ref (ad (zw ((va_up M o (upd (M o) 2 v)) o 1) o)), .ref (ad (zw ((va_up M o (upd (M o) 2 v)) o 2) o)), .int ((va_up M o (upd (M o) 2 v)) o 0)]) = (.inr (5, List.set [.long (J o 0), .long (J o 1), .ref (ad (zw (M o 1) o)), .ref (ad (zw (M o 2) o)), .int (M o 0)] 3 (.ref (ad (zw v o)))) : va_E) := by simp [va_up_self, List.set, upd, vp_updL]
  rw [e]; exact hP
theorem zg5_settled (hx : p.tables.exec = Jvm.exec) (hb : c.code = cc) (hts : ∀ w ∈ wsX50, w.before args s = true) (hown : s.vm.findClass own = some m.cls) (hw : zH D Y ad kd RL M J A H0 H locs s) (ho : kd o = 5) (hlink : (Cond.fieldLink own index "SlewRails$Settling" "settled" "I").before args s = true) (hd : decode cc pc = .ok (.getfield index, 3)) (k : W p l e R s m args below meth c H locs cells slots Q (F0 m (pc + 3) ls (.int (M o 0) :: rest))) : W p l e R s m args below meth c H locs cells slots Q (F0 m pc ls (.ref (ad o) :: rest)) := by
  obtain ⟨q0, hq, -⟩ := zW_get (Y := Y) (ad := ad) (kd := kd) (M := M) (J := J) ((hw.2.2.2.2.2.2.1 o).1 (by omega))
  rw [z_is_5 ho] at hq
  exact va_get (ci := 5) (C := RX5) (T := TX5) (N := 5) hx hb hts (fun _ h => h) hown hw.2.1 hw.1 q0 hq rfl 4 (by decide) hlink (fun _ h => h) rfl hd k
theorem zp5_settled {v : Int32} (hx : p.tables.exec = Jvm.exec) (hb : c.code = cc) (hts : ∀ w ∈ wsX50, w.before args s = true) (hown : s.vm.findClass own = some m.cls) (hw : zH D Y ad kd RL M J A H0 H locs s) (ho : kd o = 5) (hlink : (Cond.fieldLink own index "SlewRails$Settling" "settled" "I").before args s = true) (hd : decode cc pc = .ok (.putfield index, 3)) (k : ∀ (H1 : Heap) (locs1 : List Loc), zH D Y ad kd RL (va_up M o (upd (M o) 0 v)) J A H0 H1 locs1 s → W p l e R s m args below meth c H1 locs1 cells slots Q (F0 m (pc + 3) ls rest)) : W p l e R s m args below meth c H locs cells slots Q (F0 m pc ls (.int v :: .ref (ad o) :: rest)) := by
  obtain ⟨q0, hq, hk⟩ := zW_get (Y := Y) (ad := ad) (kd := kd) (M := M) (J := J) ((hw.2.2.2.2.2.2.1 o).1 (by omega))
  rw [z_is_5 ho] at hq
  refine va_put (ci := 5) (C := RX5) (T := TX5) (N := 5) (ty := .int) (v := .int v) hx hb hts (fun _ h => h) tyX5 tyX5_ok nmX5 hown hw.2.1 hw.1 hw.2.2.1 hw.2.2.2.1 q0 hq rfl 4 (by decide) hlink (fun _ h => h) rfl (by decide +kernel) (vp_nar_int v) rfl (by simp) hd (fun H1 locs1 hP hD hS => ?_)
  refine k H1 locs1 (hw.next ?_ hS (hw.2.2.2.2.2.2.2.1.upM (by omega)))
  rw [← zW_set (M' := (va_up M o (upd (M o) 0 v))) (J' := J) hw.2.2.1 hk (z_is_5 ho) (fun x hx => zc_other (va_up_ne _ _ hx) (rfl))]
  have e : .inr (5, [.long (J o 0), .long (J o 1), .ref (ad (zw ((va_up M o (upd (M o) 0 v)) o 1) o)), .ref (ad (zw ((va_up M o (upd (M o) 0 v)) o 2) o)), .int ((va_up M o (upd (M o) 0 v)) o 0)]) = (.inr (5, List.set [.long (J o 0), .long (J o 1), .ref (ad (zw (M o 1) o)), .ref (ad (zw (M o 2) o)), .int (M o 0)] 4 (.int v)) : va_E) := by simp [va_up_self, List.set, upd, vp_updL]
  rw [e]; exact hP
theorem z_is_6 (ho : kd o = 6) : zc ad kd Y M J o = .inr (6, [.ref (ad (o + 1)), .int (M o 0), .int (M o 1), .int (M o 2)]) := by unfold zc zv; rw [ho]; rfl
theorem zg6_bytes (hx : p.tables.exec = Jvm.exec) (hb : c.code = cc) (hts : ∀ w ∈ wsX60, w.before args s = true) (hown : s.vm.findClass own = some m.cls) (hw : zH D Y ad kd RL M J A H0 H locs s) (ho : kd o = 6) (hlink : (Cond.fieldLink own index "SlewRails$Tape" "bytes" "[I").before args s = true) (hd : decode cc pc = .ok (.getfield index, 3)) (k : W p l e R s m args below meth c H locs cells slots Q (F0 m (pc + 3) ls (.ref (ad (o + 1)) :: rest))) : W p l e R s m args below meth c H locs cells slots Q (F0 m pc ls (.ref (ad o) :: rest)) := by
  obtain ⟨q0, hq, -⟩ := zW_get (Y := Y) (ad := ad) (kd := kd) (M := M) (J := J) ((hw.2.2.2.2.2.2.1 o).1 (by omega))
  rw [z_is_6 ho] at hq
  exact va_get (ci := 6) (C := RX6) (T := TX6) (N := 4) hx hb hts (fun _ h => h) hown hw.2.1 hw.1 q0 hq rfl 0 (by decide) hlink (fun _ h => h) rfl hd k
theorem zg6_length (hx : p.tables.exec = Jvm.exec) (hb : c.code = cc) (hts : ∀ w ∈ wsX60, w.before args s = true) (hown : s.vm.findClass own = some m.cls) (hw : zH D Y ad kd RL M J A H0 H locs s) (ho : kd o = 6) (hlink : (Cond.fieldLink own index "SlewRails$Tape" "length" "I").before args s = true) (hd : decode cc pc = .ok (.getfield index, 3)) (k : W p l e R s m args below meth c H locs cells slots Q (F0 m (pc + 3) ls (.int (M o 0) :: rest))) : W p l e R s m args below meth c H locs cells slots Q (F0 m pc ls (.ref (ad o) :: rest)) := by
  obtain ⟨q0, hq, -⟩ := zW_get (Y := Y) (ad := ad) (kd := kd) (M := M) (J := J) ((hw.2.2.2.2.2.2.1 o).1 (by omega))
  rw [z_is_6 ho] at hq
  exact va_get (ci := 6) (C := RX6) (T := TX6) (N := 4) hx hb hts (fun _ h => h) hown hw.2.1 hw.1 q0 hq rfl 1 (by decide) hlink (fun _ h => h) rfl hd k
theorem zp6_length {v : Int32} (hx : p.tables.exec = Jvm.exec) (hb : c.code = cc) (hts : ∀ w ∈ wsX60, w.before args s = true) (hown : s.vm.findClass own = some m.cls) (hw : zH D Y ad kd RL M J A H0 H locs s) (ho : kd o = 6) (hlink : (Cond.fieldLink own index "SlewRails$Tape" "length" "I").before args s = true) (hd : decode cc pc = .ok (.putfield index, 3)) (k : ∀ (H1 : Heap) (locs1 : List Loc), zH D Y ad kd RL (va_up M o (upd (M o) 0 v)) J A H0 H1 locs1 s → W p l e R s m args below meth c H1 locs1 cells slots Q (F0 m (pc + 3) ls rest)) : W p l e R s m args below meth c H locs cells slots Q (F0 m pc ls (.int v :: .ref (ad o) :: rest)) := by
  obtain ⟨q0, hq, hk⟩ := zW_get (Y := Y) (ad := ad) (kd := kd) (M := M) (J := J) ((hw.2.2.2.2.2.2.1 o).1 (by omega))
  rw [z_is_6 ho] at hq
  refine va_put (ci := 6) (C := RX6) (T := TX6) (N := 4) (ty := .int) (v := .int v) hx hb hts (fun _ h => h) tyX6 tyX6_ok nmX6 hown hw.2.1 hw.1 hw.2.2.1 hw.2.2.2.1 q0 hq rfl 1 (by decide) hlink (fun _ h => h) rfl (by decide +kernel) (vp_nar_int v) rfl (by simp) hd (fun H1 locs1 hP hD hS => ?_)
  refine k H1 locs1 (hw.next ?_ hS (hw.2.2.2.2.2.2.2.1.upM (by omega)))
  rw [← zW_set (M' := (va_up M o (upd (M o) 0 v))) (J' := J) hw.2.2.1 hk (z_is_6 ho) (fun x hx => zc_other (va_up_ne _ _ hx) (rfl))]
  have e : .inr (6, [.ref (ad (o + 1)), .int ((va_up M o (upd (M o) 0 v)) o 0), .int ((va_up M o (upd (M o) 0 v)) o 1), .int ((va_up M o (upd (M o) 0 v)) o 2)]) = (.inr (6, List.set [.ref (ad (o + 1)), .int (M o 0), .int (M o 1), .int (M o 2)] 1 (.int v)) : va_E) := by simp [va_up_self, List.set, upd, vp_updL]
  rw [e]; exact hP
theorem zg6_fault (hx : p.tables.exec = Jvm.exec) (hb : c.code = cc) (hts : ∀ w ∈ wsX60, w.before args s = true) (hown : s.vm.findClass own = some m.cls) (hw : zH D Y ad kd RL M J A H0 H locs s) (ho : kd o = 6) (hlink : (Cond.fieldLink own index "SlewRails$Tape" "fault" "I").before args s = true) (hd : decode cc pc = .ok (.getfield index, 3)) (k : W p l e R s m args below meth c H locs cells slots Q (F0 m (pc + 3) ls (.int (M o 1) :: rest))) : W p l e R s m args below meth c H locs cells slots Q (F0 m pc ls (.ref (ad o) :: rest)) := by
  obtain ⟨q0, hq, -⟩ := zW_get (Y := Y) (ad := ad) (kd := kd) (M := M) (J := J) ((hw.2.2.2.2.2.2.1 o).1 (by omega))
  rw [z_is_6 ho] at hq
  exact va_get (ci := 6) (C := RX6) (T := TX6) (N := 4) hx hb hts (fun _ h => h) hown hw.2.1 hw.1 q0 hq rfl 2 (by decide) hlink (fun _ h => h) rfl hd k
theorem zp6_fault {v : Int32} (hx : p.tables.exec = Jvm.exec) (hb : c.code = cc) (hts : ∀ w ∈ wsX60, w.before args s = true) (hown : s.vm.findClass own = some m.cls) (hw : zH D Y ad kd RL M J A H0 H locs s) (ho : kd o = 6) (hlink : (Cond.fieldLink own index "SlewRails$Tape" "fault" "I").before args s = true) (hd : decode cc pc = .ok (.putfield index, 3)) (k : ∀ (H1 : Heap) (locs1 : List Loc), zH D Y ad kd RL (va_up M o (upd (M o) 1 v)) J A H0 H1 locs1 s → W p l e R s m args below meth c H1 locs1 cells slots Q (F0 m (pc + 3) ls rest)) : W p l e R s m args below meth c H locs cells slots Q (F0 m pc ls (.int v :: .ref (ad o) :: rest)) := by
  obtain ⟨q0, hq, hk⟩ := zW_get (Y := Y) (ad := ad) (kd := kd) (M := M) (J := J) ((hw.2.2.2.2.2.2.1 o).1 (by omega))
  rw [z_is_6 ho] at hq
  refine va_put (ci := 6) (C := RX6) (T := TX6) (N := 4) (ty := .int) (v := .int v) hx hb hts (fun _ h => h) tyX6 tyX6_ok nmX6 hown hw.2.1 hw.1 hw.2.2.1 hw.2.2.2.1 q0 hq rfl 2 (by decide) hlink (fun _ h => h) rfl (by decide +kernel) (vp_nar_int v) rfl (by simp) hd (fun H1 locs1 hP hD hS => ?_)
  refine k H1 locs1 (hw.next ?_ hS (hw.2.2.2.2.2.2.2.1.upM (by omega)))
  rw [← zW_set (M' := (va_up M o (upd (M o) 1 v))) (J' := J) hw.2.2.1 hk (z_is_6 ho) (fun x hx => zc_other (va_up_ne _ _ hx) (rfl))]
  have e : .inr (6, [.ref (ad (o + 1)), .int ((va_up M o (upd (M o) 1 v)) o 0), .int ((va_up M o (upd (M o) 1 v)) o 1), .int ((va_up M o (upd (M o) 1 v)) o 2)]) = (.inr (6, List.set [.ref (ad (o + 1)), .int (M o 0), .int (M o 1), .int (M o 2)] 2 (.int v)) : va_E) := by simp [va_up_self, List.set, upd, vp_updL]
  rw [e]; exact hP
theorem zg6_faultPlace (hx : p.tables.exec = Jvm.exec) (hb : c.code = cc) (hts : ∀ w ∈ wsX60, w.before args s = true) (hown : s.vm.findClass own = some m.cls) (hw : zH D Y ad kd RL M J A H0 H locs s) (ho : kd o = 6) (hlink : (Cond.fieldLink own index "SlewRails$Tape" "faultPlace" "I").before args s = true) (hd : decode cc pc = .ok (.getfield index, 3)) (k : W p l e R s m args below meth c H locs cells slots Q (F0 m (pc + 3) ls (.int (M o 2) :: rest))) : W p l e R s m args below meth c H locs cells slots Q (F0 m pc ls (.ref (ad o) :: rest)) := by
  obtain ⟨q0, hq, -⟩ := zW_get (Y := Y) (ad := ad) (kd := kd) (M := M) (J := J) ((hw.2.2.2.2.2.2.1 o).1 (by omega))
  rw [z_is_6 ho] at hq
  exact va_get (ci := 6) (C := RX6) (T := TX6) (N := 4) hx hb hts (fun _ h => h) hown hw.2.1 hw.1 q0 hq rfl 3 (by decide) hlink (fun _ h => h) rfl hd k
theorem zp6_faultPlace {v : Int32} (hx : p.tables.exec = Jvm.exec) (hb : c.code = cc) (hts : ∀ w ∈ wsX60, w.before args s = true) (hown : s.vm.findClass own = some m.cls) (hw : zH D Y ad kd RL M J A H0 H locs s) (ho : kd o = 6) (hlink : (Cond.fieldLink own index "SlewRails$Tape" "faultPlace" "I").before args s = true) (hd : decode cc pc = .ok (.putfield index, 3)) (k : ∀ (H1 : Heap) (locs1 : List Loc), zH D Y ad kd RL (va_up M o (upd (M o) 2 v)) J A H0 H1 locs1 s → W p l e R s m args below meth c H1 locs1 cells slots Q (F0 m (pc + 3) ls rest)) : W p l e R s m args below meth c H locs cells slots Q (F0 m pc ls (.int v :: .ref (ad o) :: rest)) := by
  obtain ⟨q0, hq, hk⟩ := zW_get (Y := Y) (ad := ad) (kd := kd) (M := M) (J := J) ((hw.2.2.2.2.2.2.1 o).1 (by omega))
  rw [z_is_6 ho] at hq
  refine va_put (ci := 6) (C := RX6) (T := TX6) (N := 4) (ty := .int) (v := .int v) hx hb hts (fun _ h => h) tyX6 tyX6_ok nmX6 hown hw.2.1 hw.1 hw.2.2.1 hw.2.2.2.1 q0 hq rfl 3 (by decide) hlink (fun _ h => h) rfl (by decide +kernel) (vp_nar_int v) rfl (by simp) hd (fun H1 locs1 hP hD hS => ?_)
  refine k H1 locs1 (hw.next ?_ hS (hw.2.2.2.2.2.2.2.1.upM (by omega)))
  rw [← zW_set (M' := (va_up M o (upd (M o) 2 v))) (J' := J) hw.2.2.1 hk (z_is_6 ho) (fun x hx => zc_other (va_up_ne _ _ hx) (rfl))]
  have e : .inr (6, [.ref (ad (o + 1)), .int ((va_up M o (upd (M o) 2 v)) o 0), .int ((va_up M o (upd (M o) 2 v)) o 1), .int ((va_up M o (upd (M o) 2 v)) o 2)]) = (.inr (6, List.set [.ref (ad (o + 1)), .int (M o 0), .int (M o 1), .int (M o 2)] 3 (.int v)) : va_E) := by simp [va_up_self, List.set, upd, vp_updL]
  rw [e]; exact hP
theorem z_is_7 (ho : kd o = 7) : zc ad kd Y M J o = .inr (7, [.ref (ad (o + 1)), .ref (ad (o + 18)), .ref (ad (o + 20)), .ref (ad (o + 25)), .ref (ad (o + 30)), .ref (ad (o + 41)), .ref (ad (o + 163)), .ref (ad (o + 165)), va_rf (if kd (o + 168) = 4 then some (ad (o + 168)) else none), .int (M o 0)]) := by unfold zc zv; rw [ho]; rfl
theorem zg7_rows (hx : p.tables.exec = Jvm.exec) (hb : c.code = cc) (hts : ∀ w ∈ wsX70, w.before args s = true) (hown : s.vm.findClass own = some m.cls) (hw : zH D Y ad kd RL M J A H0 H locs s) (ho : kd o = 7) (hlink : (Cond.fieldLink own index "SlewRails" "rows" "[LSlewRails$Row;").before args s = true) (hd : decode cc pc = .ok (.getfield index, 3)) (k : W p l e R s m args below meth c H locs cells slots Q (F0 m (pc + 3) ls (.ref (ad (o + 1)) :: rest))) : W p l e R s m args below meth c H locs cells slots Q (F0 m pc ls (.ref (ad o) :: rest)) := by
  obtain ⟨q0, hq, -⟩ := zW_get (Y := Y) (ad := ad) (kd := kd) (M := M) (J := J) ((hw.2.2.2.2.2.2.1 o).1 (by omega))
  rw [z_is_7 ho] at hq
  exact va_get (ci := 7) (C := RX7) (T := TX7) (N := 10) hx hb hts (fun _ h => h) hown hw.2.1 hw.1 q0 hq rfl 0 (by decide) hlink (fun _ h => h) rfl hd k
theorem zg7_tape (hx : p.tables.exec = Jvm.exec) (hb : c.code = cc) (hts : ∀ w ∈ wsX70, w.before args s = true) (hown : s.vm.findClass own = some m.cls) (hw : zH D Y ad kd RL M J A H0 H locs s) (ho : kd o = 7) (hlink : (Cond.fieldLink own index "SlewRails" "tape" "LSlewRails$Tape;").before args s = true) (hd : decode cc pc = .ok (.getfield index, 3)) (k : W p l e R s m args below meth c H locs cells slots Q (F0 m (pc + 3) ls (.ref (ad (o + 18)) :: rest))) : W p l e R s m args below meth c H locs cells slots Q (F0 m pc ls (.ref (ad o) :: rest)) := by
  obtain ⟨q0, hq, -⟩ := zW_get (Y := Y) (ad := ad) (kd := kd) (M := M) (J := J) ((hw.2.2.2.2.2.2.1 o).1 (by omega))
  rw [z_is_7 ho] at hq
  exact va_get (ci := 7) (C := RX7) (T := TX7) (N := 10) hx hb hts (fun _ h => h) hown hw.2.1 hw.1 q0 hq rfl 1 (by decide) hlink (fun _ h => h) rfl hd k
theorem zg7_rail (hx : p.tables.exec = Jvm.exec) (hb : c.code = cc) (hts : ∀ w ∈ wsX70, w.before args s = true) (hown : s.vm.findClass own = some m.cls) (hw : zH D Y ad kd RL M J A H0 H locs s) (ho : kd o = 7) (hlink : (Cond.fieldLink own index "SlewRails" "rail" "LSlewRails$Rail;").before args s = true) (hd : decode cc pc = .ok (.getfield index, 3)) (k : W p l e R s m args below meth c H locs cells slots Q (F0 m (pc + 3) ls (.ref (ad (o + 20)) :: rest))) : W p l e R s m args below meth c H locs cells slots Q (F0 m pc ls (.ref (ad o) :: rest)) := by
  obtain ⟨q0, hq, -⟩ := zW_get (Y := Y) (ad := ad) (kd := kd) (M := M) (J := J) ((hw.2.2.2.2.2.2.1 o).1 (by omega))
  rw [z_is_7 ho] at hq
  exact va_get (ci := 7) (C := RX7) (T := TX7) (N := 10) hx hb hts (fun _ h => h) hown hw.2.1 hw.1 q0 hq rfl 2 (by decide) hlink (fun _ h => h) rfl hd k
theorem zg7_draft (hx : p.tables.exec = Jvm.exec) (hb : c.code = cc) (hts : ∀ w ∈ wsX70, w.before args s = true) (hown : s.vm.findClass own = some m.cls) (hw : zH D Y ad kd RL M J A H0 H locs s) (ho : kd o = 7) (hlink : (Cond.fieldLink own index "SlewRails" "draft" "LSlewRails$Rail;").before args s = true) (hd : decode cc pc = .ok (.getfield index, 3)) (k : W p l e R s m args below meth c H locs cells slots Q (F0 m (pc + 3) ls (.ref (ad (o + 25)) :: rest))) : W p l e R s m args below meth c H locs cells slots Q (F0 m pc ls (.ref (ad o) :: rest)) := by
  obtain ⟨q0, hq, -⟩ := zW_get (Y := Y) (ad := ad) (kd := kd) (M := M) (J := J) ((hw.2.2.2.2.2.2.1 o).1 (by omega))
  rw [z_is_7 ho] at hq
  exact va_get (ci := 7) (C := RX7) (T := TX7) (N := 10) hx hb hts (fun _ h => h) hown hw.2.1 hw.1 q0 hq rfl 3 (by decide) hlink (fun _ h => h) rfl hd k
theorem zg7_images (hx : p.tables.exec = Jvm.exec) (hb : c.code = cc) (hts : ∀ w ∈ wsX70, w.before args s = true) (hown : s.vm.findClass own = some m.cls) (hw : zH D Y ad kd RL M J A H0 H locs s) (ho : kd o = 7) (hlink : (Cond.fieldLink own index "SlewRails" "images" "[LSlewRails$Rail;").before args s = true) (hd : decode cc pc = .ok (.getfield index, 3)) (k : W p l e R s m args below meth c H locs cells slots Q (F0 m (pc + 3) ls (.ref (ad (o + 30)) :: rest))) : W p l e R s m args below meth c H locs cells slots Q (F0 m pc ls (.ref (ad o) :: rest)) := by
  obtain ⟨q0, hq, -⟩ := zW_get (Y := Y) (ad := ad) (kd := kd) (M := M) (J := J) ((hw.2.2.2.2.2.2.1 o).1 (by omega))
  rw [z_is_7 ho] at hq
  exact va_get (ci := 7) (C := RX7) (T := TX7) (N := 10) hx hb hts (fun _ h => h) hown hw.2.1 hw.1 q0 hq rfl 4 (by decide) hlink (fun _ h => h) rfl hd k
theorem zg7_history (hx : p.tables.exec = Jvm.exec) (hb : c.code = cc) (hts : ∀ w ∈ wsX70, w.before args s = true) (hown : s.vm.findClass own = some m.cls) (hw : zH D Y ad kd RL M J A H0 H locs s) (ho : kd o = 7) (hlink : (Cond.fieldLink own index "SlewRails" "history" "LSlewRails$History;").before args s = true) (hd : decode cc pc = .ok (.getfield index, 3)) (k : W p l e R s m args below meth c H locs cells slots Q (F0 m (pc + 3) ls (.ref (ad (o + 41)) :: rest))) : W p l e R s m args below meth c H locs cells slots Q (F0 m pc ls (.ref (ad o) :: rest)) := by
  obtain ⟨q0, hq, -⟩ := zW_get (Y := Y) (ad := ad) (kd := kd) (M := M) (J := J) ((hw.2.2.2.2.2.2.1 o).1 (by omega))
  rw [z_is_7 ho] at hq
  exact va_get (ci := 7) (C := RX7) (T := TX7) (N := 10) hx hb hts (fun _ h => h) hown hw.2.1 hw.1 q0 hq rfl 5 (by decide) hlink (fun _ h => h) rfl hd k
theorem zg7_asks (hx : p.tables.exec = Jvm.exec) (hb : c.code = cc) (hts : ∀ w ∈ wsX70, w.before args s = true) (hown : s.vm.findClass own = some m.cls) (hw : zH D Y ad kd RL M J A H0 H locs s) (ho : kd o = 7) (hlink : (Cond.fieldLink own index "SlewRails" "asks" "LSlewRails$Asks;").before args s = true) (hd : decode cc pc = .ok (.getfield index, 3)) (k : W p l e R s m args below meth c H locs cells slots Q (F0 m (pc + 3) ls (.ref (ad (o + 163)) :: rest))) : W p l e R s m args below meth c H locs cells slots Q (F0 m pc ls (.ref (ad o) :: rest)) := by
  obtain ⟨q0, hq, -⟩ := zW_get (Y := Y) (ad := ad) (kd := kd) (M := M) (J := J) ((hw.2.2.2.2.2.2.1 o).1 (by omega))
  rw [z_is_7 ho] at hq
  exact va_get (ci := 7) (C := RX7) (T := TX7) (N := 10) hx hb hts (fun _ h => h) hown hw.2.1 hw.1 q0 hq rfl 6 (by decide) hlink (fun _ h => h) rfl hd k
theorem zg7_settling (hx : p.tables.exec = Jvm.exec) (hb : c.code = cc) (hts : ∀ w ∈ wsX70, w.before args s = true) (hown : s.vm.findClass own = some m.cls) (hw : zH D Y ad kd RL M J A H0 H locs s) (ho : kd o = 7) (hlink : (Cond.fieldLink own index "SlewRails" "settling" "LSlewRails$Settling;").before args s = true) (hd : decode cc pc = .ok (.getfield index, 3)) (k : W p l e R s m args below meth c H locs cells slots Q (F0 m (pc + 3) ls (.ref (ad (o + 165)) :: rest))) : W p l e R s m args below meth c H locs cells slots Q (F0 m pc ls (.ref (ad o) :: rest)) := by
  obtain ⟨q0, hq, -⟩ := zW_get (Y := Y) (ad := ad) (kd := kd) (M := M) (J := J) ((hw.2.2.2.2.2.2.1 o).1 (by omega))
  rw [z_is_7 ho] at hq
  exact va_get (ci := 7) (C := RX7) (T := TX7) (N := 10) hx hb hts (fun _ h => h) hown hw.2.1 hw.1 q0 hq rfl 7 (by decide) hlink (fun _ h => h) rfl hd k
theorem zg7_search (hx : p.tables.exec = Jvm.exec) (hb : c.code = cc) (hts : ∀ w ∈ wsX70, w.before args s = true) (hown : s.vm.findClass own = some m.cls) (hw : zH D Y ad kd RL M J A H0 H locs s) (ho : kd o = 7) (hlink : (Cond.fieldLink own index "SlewRails" "search" "LSlewRails$Search;").before args s = true) (hd : decode cc pc = .ok (.getfield index, 3)) (k : W p l e R s m args below meth c H locs cells slots Q (F0 m (pc + 3) ls (va_rf (if kd (o + 168) = 4 then some (ad (o + 168)) else none) :: rest))) : W p l e R s m args below meth c H locs cells slots Q (F0 m pc ls (.ref (ad o) :: rest)) := by
  obtain ⟨q0, hq, -⟩ := zW_get (Y := Y) (ad := ad) (kd := kd) (M := M) (J := J) ((hw.2.2.2.2.2.2.1 o).1 (by omega))
  rw [z_is_7 ho] at hq
  exact va_get (ci := 7) (C := RX7) (T := TX7) (N := 10) hx hb hts (fun _ h => h) hown hw.2.1 hw.1 q0 hq rfl 8 (by decide) hlink (fun _ h => h) rfl hd k
theorem zg7_status (hx : p.tables.exec = Jvm.exec) (hb : c.code = cc) (hts : ∀ w ∈ wsX70, w.before args s = true) (hown : s.vm.findClass own = some m.cls) (hw : zH D Y ad kd RL M J A H0 H locs s) (ho : kd o = 7) (hlink : (Cond.fieldLink own index "SlewRails" "status" "I").before args s = true) (hd : decode cc pc = .ok (.getfield index, 3)) (k : W p l e R s m args below meth c H locs cells slots Q (F0 m (pc + 3) ls (.int (M o 0) :: rest))) : W p l e R s m args below meth c H locs cells slots Q (F0 m pc ls (.ref (ad o) :: rest)) := by
  obtain ⟨q0, hq, -⟩ := zW_get (Y := Y) (ad := ad) (kd := kd) (M := M) (J := J) ((hw.2.2.2.2.2.2.1 o).1 (by omega))
  rw [z_is_7 ho] at hq
  exact va_get (ci := 7) (C := RX7) (T := TX7) (N := 10) hx hb hts (fun _ h => h) hown hw.2.1 hw.1 q0 hq rfl 9 (by decide) hlink (fun _ h => h) rfl hd k
theorem zp7_status {v : Int32} (hx : p.tables.exec = Jvm.exec) (hb : c.code = cc) (hts : ∀ w ∈ wsX70, w.before args s = true) (hown : s.vm.findClass own = some m.cls) (hw : zH D Y ad kd RL M J A H0 H locs s) (ho : kd o = 7) (hlink : (Cond.fieldLink own index "SlewRails" "status" "I").before args s = true) (hd : decode cc pc = .ok (.putfield index, 3)) (k : ∀ (H1 : Heap) (locs1 : List Loc), zH D Y ad kd RL (va_up M o (upd (M o) 0 v)) J A H0 H1 locs1 s → W p l e R s m args below meth c H1 locs1 cells slots Q (F0 m (pc + 3) ls rest)) : W p l e R s m args below meth c H locs cells slots Q (F0 m pc ls (.int v :: .ref (ad o) :: rest)) := by
  obtain ⟨q0, hq, hk⟩ := zW_get (Y := Y) (ad := ad) (kd := kd) (M := M) (J := J) ((hw.2.2.2.2.2.2.1 o).1 (by omega))
  rw [z_is_7 ho] at hq
  refine va_put (ci := 7) (C := RX7) (T := TX7) (N := 10) (ty := .int) (v := .int v) hx hb hts (fun _ h => h) tyX7 tyX7_ok nmX7 hown hw.2.1 hw.1 hw.2.2.1 hw.2.2.2.1 q0 hq rfl 9 (by decide) hlink (fun _ h => h) rfl (by decide +kernel) (vp_nar_int v) rfl (by simp) hd (fun H1 locs1 hP hD hS => ?_)
  refine k H1 locs1 (hw.next ?_ hS (hw.2.2.2.2.2.2.2.1.upM (by omega)))
  rw [← zW_set (M' := (va_up M o (upd (M o) 0 v))) (J' := J) hw.2.2.1 hk (z_is_7 ho) (fun x hx => zc_other (va_up_ne _ _ hx) (rfl))]
  have e : .inr (7, [.ref (ad (o + 1)), .ref (ad (o + 18)), .ref (ad (o + 20)), .ref (ad (o + 25)), .ref (ad (o + 30)), .ref (ad (o + 41)), .ref (ad (o + 163)), .ref (ad (o + 165)), va_rf (if kd (o + 168) = 4 then some (ad (o + 168)) else none), .int ((va_up M o (upd (M o) 0 v)) o 0)]) = (.inr (7, List.set [.ref (ad (o + 1)), .ref (ad (o + 18)), .ref (ad (o + 20)), .ref (ad (o + 25)), .ref (ad (o + 30)), .ref (ad (o + 41)), .ref (ad (o + 163)), .ref (ad (o + 165)), va_rf (if kd (o + 168) = 4 then some (ad (o + 168)) else none), .int (M o 0)] 9 (.int v)) : va_E) := by simp [va_up_self, List.set, upd, vp_updL]
  rw [e]; exact hP
theorem z_is_8 (ho : kd o = 8) : zc ad kd Y M J o = .inr (8, [.ref (ad (o + 1)), .ref (ad (o + 2)), .ref (ad (o + 3)), .ref (ad (o + 4)), .int (M o 0), .ref (ad (o + 5)), .int (M o 1), .int (M o 2), .int (M o 3), .int (M o 4), .int (M o 5), .int (M o 6), .int (M o 7), .ref (ad (o + 6)), .ref (ad (o + 7)), .ref (ad (o + 8)), .ref (ad (o + 9)), .int (M o 8), .ref (ad (o + 10)), .ref (ad (o + 11)), .ref (ad (o + 12)), .ref (ad (o + 13)), .int (M o 9), .int (M o 10), .ref (ad (o + 14)), .int (M o 11)]) := by unfold zc zv; rw [ho]; rfl
theorem zg8_lane (hx : p.tables.exec = Jvm.exec) (hb : c.code = cc) (hts : ∀ w ∈ wsX80, w.before args s = true) (hown : s.vm.findClass own = some m.cls) (hw : zH D Y ad kd RL M J A H0 H locs s) (ho : kd o = 8) (hlink : (Cond.fieldLink own index "SlewRailsModel" "lane" "[I").before args s = true) (hd : decode cc pc = .ok (.getfield index, 3)) (k : W p l e R s m args below meth c H locs cells slots Q (F0 m (pc + 3) ls (.ref (ad (o + 1)) :: rest))) : W p l e R s m args below meth c H locs cells slots Q (F0 m pc ls (.ref (ad o) :: rest)) := by
  obtain ⟨q0, hq, -⟩ := zW_get (Y := Y) (ad := ad) (kd := kd) (M := M) (J := J) ((hw.2.2.2.2.2.2.1 o).1 (by omega))
  rw [z_is_8 ho] at hq
  exact va_get (ci := 8) (C := RX8) (T := TX8) (N := 26) hx hb hts (fun _ h => h) hown hw.2.1 hw.1 q0 hq rfl 0 (by decide) hlink (fun _ h => h) rfl hd k
theorem zg8_many (hx : p.tables.exec = Jvm.exec) (hb : c.code = cc) (hts : ∀ w ∈ wsX80, w.before args s = true) (hown : s.vm.findClass own = some m.cls) (hw : zH D Y ad kd RL M J A H0 H locs s) (ho : kd o = 8) (hlink : (Cond.fieldLink own index "SlewRailsModel" "many" "[I").before args s = true) (hd : decode cc pc = .ok (.getfield index, 3)) (k : W p l e R s m args below meth c H locs cells slots Q (F0 m (pc + 3) ls (.ref (ad (o + 2)) :: rest))) : W p l e R s m args below meth c H locs cells slots Q (F0 m pc ls (.ref (ad o) :: rest)) := by
  obtain ⟨q0, hq, -⟩ := zW_get (Y := Y) (ad := ad) (kd := kd) (M := M) (J := J) ((hw.2.2.2.2.2.2.1 o).1 (by omega))
  rw [z_is_8 ho] at hq
  exact va_get (ci := 8) (C := RX8) (T := TX8) (N := 26) hx hb hts (fun _ h => h) hown hw.2.1 hw.1 q0 hq rfl 1 (by decide) hlink (fun _ h => h) rfl hd k
theorem zg8_items (hx : p.tables.exec = Jvm.exec) (hb : c.code = cc) (hts : ∀ w ∈ wsX80, w.before args s = true) (hown : s.vm.findClass own = some m.cls) (hw : zH D Y ad kd RL M J A H0 H locs s) (ho : kd o = 8) (hlink : (Cond.fieldLink own index "SlewRailsModel" "items" "[I").before args s = true) (hd : decode cc pc = .ok (.getfield index, 3)) (k : W p l e R s m args below meth c H locs cells slots Q (F0 m (pc + 3) ls (.ref (ad (o + 3)) :: rest))) : W p l e R s m args below meth c H locs cells slots Q (F0 m pc ls (.ref (ad o) :: rest)) := by
  obtain ⟨q0, hq, -⟩ := zW_get (Y := Y) (ad := ad) (kd := kd) (M := M) (J := J) ((hw.2.2.2.2.2.2.1 o).1 (by omega))
  rw [z_is_8 ho] at hq
  exact va_get (ci := 8) (C := RX8) (T := TX8) (N := 26) hx hb hts (fun _ h => h) hown hw.2.1 hw.1 q0 hq rfl 2 (by decide) hlink (fun _ h => h) rfl hd k
theorem zg8_spare (hx : p.tables.exec = Jvm.exec) (hb : c.code = cc) (hts : ∀ w ∈ wsX80, w.before args s = true) (hown : s.vm.findClass own = some m.cls) (hw : zH D Y ad kd RL M J A H0 H locs s) (ho : kd o = 8) (hlink : (Cond.fieldLink own index "SlewRailsModel" "spare" "[I").before args s = true) (hd : decode cc pc = .ok (.getfield index, 3)) (k : W p l e R s m args below meth c H locs cells slots Q (F0 m (pc + 3) ls (.ref (ad (o + 4)) :: rest))) : W p l e R s m args below meth c H locs cells slots Q (F0 m pc ls (.ref (ad o) :: rest)) := by
  obtain ⟨q0, hq, -⟩ := zW_get (Y := Y) (ad := ad) (kd := kd) (M := M) (J := J) ((hw.2.2.2.2.2.2.1 o).1 (by omega))
  rw [z_is_8 ho] at hq
  exact va_get (ci := 8) (C := RX8) (T := TX8) (N := 26) hx hb hts (fun _ h => h) hown hw.2.1 hw.1 q0 hq rfl 3 (by decide) hlink (fun _ h => h) rfl hd k
theorem zg8_status (hx : p.tables.exec = Jvm.exec) (hb : c.code = cc) (hts : ∀ w ∈ wsX80, w.before args s = true) (hown : s.vm.findClass own = some m.cls) (hw : zH D Y ad kd RL M J A H0 H locs s) (ho : kd o = 8) (hlink : (Cond.fieldLink own index "SlewRailsModel" "status" "I").before args s = true) (hd : decode cc pc = .ok (.getfield index, 3)) (k : W p l e R s m args below meth c H locs cells slots Q (F0 m (pc + 3) ls (.int (M o 0) :: rest))) : W p l e R s m args below meth c H locs cells slots Q (F0 m pc ls (.ref (ad o) :: rest)) := by
  obtain ⟨q0, hq, -⟩ := zW_get (Y := Y) (ad := ad) (kd := kd) (M := M) (J := J) ((hw.2.2.2.2.2.2.1 o).1 (by omega))
  rw [z_is_8 ho] at hq
  exact va_get (ci := 8) (C := RX8) (T := TX8) (N := 26) hx hb hts (fun _ h => h) hown hw.2.1 hw.1 q0 hq rfl 4 (by decide) hlink (fun _ h => h) rfl hd k
theorem zp8_status {v : Int32} (hx : p.tables.exec = Jvm.exec) (hb : c.code = cc) (hts : ∀ w ∈ wsX80, w.before args s = true) (hown : s.vm.findClass own = some m.cls) (hw : zH D Y ad kd RL M J A H0 H locs s) (ho : kd o = 8) (hlink : (Cond.fieldLink own index "SlewRailsModel" "status" "I").before args s = true) (hd : decode cc pc = .ok (.putfield index, 3)) (k : ∀ (H1 : Heap) (locs1 : List Loc), zH D Y ad kd RL (va_up M o (upd (M o) 0 v)) J A H0 H1 locs1 s → W p l e R s m args below meth c H1 locs1 cells slots Q (F0 m (pc + 3) ls rest)) : W p l e R s m args below meth c H locs cells slots Q (F0 m pc ls (.int v :: .ref (ad o) :: rest)) := by
  obtain ⟨q0, hq, hk⟩ := zW_get (Y := Y) (ad := ad) (kd := kd) (M := M) (J := J) ((hw.2.2.2.2.2.2.1 o).1 (by omega))
  rw [z_is_8 ho] at hq
  refine va_put (ci := 8) (C := RX8) (T := TX8) (N := 26) (ty := .int) (v := .int v) hx hb hts (fun _ h => h) tyX8 tyX8_ok nmX8 hown hw.2.1 hw.1 hw.2.2.1 hw.2.2.2.1 q0 hq rfl 4 (by decide) hlink (fun _ h => h) rfl (by decide +kernel) (vp_nar_int v) rfl (by simp) hd (fun H1 locs1 hP hD hS => ?_)
  refine k H1 locs1 (hw.next ?_ hS (hw.2.2.2.2.2.2.2.1.upM (by omega)))
  rw [← zW_set (M' := (va_up M o (upd (M o) 0 v))) (J' := J) hw.2.2.1 hk (z_is_8 ho) (fun x hx => zc_other (va_up_ne _ _ hx) (rfl))]
  have e : .inr (8, [.ref (ad (o + 1)), .ref (ad (o + 2)), .ref (ad (o + 3)), .ref (ad (o + 4)), .int ((va_up M o (upd (M o) 0 v)) o 0), .ref (ad (o + 5)), .int ((va_up M o (upd (M o) 0 v)) o 1), .int ((va_up M o (upd (M o) 0 v)) o 2), .int ((va_up M o (upd (M o) 0 v)) o 3), .int ((va_up M o (upd (M o) 0 v)) o 4), .int ((va_up M o (upd (M o) 0 v)) o 5), .int ((va_up M o (upd (M o) 0 v)) o 6), .int ((va_up M o (upd (M o) 0 v)) o 7), .ref (ad (o + 6)), .ref (ad (o + 7)), .ref (ad (o + 8)), .ref (ad (o + 9)), .int ((va_up M o (upd (M o) 0 v)) o 8), .ref (ad (o + 10)), .ref (ad (o + 11)), .ref (ad (o + 12)), .ref (ad (o + 13)), .int ((va_up M o (upd (M o) 0 v)) o 9), .int ((va_up M o (upd (M o) 0 v)) o 10), .ref (ad (o + 14)), .int ((va_up M o (upd (M o) 0 v)) o 11)]) = (.inr (8, List.set [.ref (ad (o + 1)), .ref (ad (o + 2)), .ref (ad (o + 3)), .ref (ad (o + 4)), .int (M o 0), .ref (ad (o + 5)), .int (M o 1), .int (M o 2), .int (M o 3), .int (M o 4), .int (M o 5), .int (M o 6), .int (M o 7), .ref (ad (o + 6)), .ref (ad (o + 7)), .ref (ad (o + 8)), .ref (ad (o + 9)), .int (M o 8), .ref (ad (o + 10)), .ref (ad (o + 11)), .ref (ad (o + 12)), .ref (ad (o + 13)), .int (M o 9), .int (M o 10), .ref (ad (o + 14)), .int (M o 11)] 4 (.int v)) : va_E) := by simp [va_up_self, List.set, upd, vp_updL]
  rw [e]; exact hP
theorem zg8_tape (hx : p.tables.exec = Jvm.exec) (hb : c.code = cc) (hts : ∀ w ∈ wsX80, w.before args s = true) (hown : s.vm.findClass own = some m.cls) (hw : zH D Y ad kd RL M J A H0 H locs s) (ho : kd o = 8) (hlink : (Cond.fieldLink own index "SlewRailsModel" "tape" "[I").before args s = true) (hd : decode cc pc = .ok (.getfield index, 3)) (k : W p l e R s m args below meth c H locs cells slots Q (F0 m (pc + 3) ls (.ref (ad (o + 5)) :: rest))) : W p l e R s m args below meth c H locs cells slots Q (F0 m pc ls (.ref (ad o) :: rest)) := by
  obtain ⟨q0, hq, -⟩ := zW_get (Y := Y) (ad := ad) (kd := kd) (M := M) (J := J) ((hw.2.2.2.2.2.2.1 o).1 (by omega))
  rw [z_is_8 ho] at hq
  exact va_get (ci := 8) (C := RX8) (T := TX8) (N := 26) hx hb hts (fun _ h => h) hown hw.2.1 hw.1 q0 hq rfl 5 (by decide) hlink (fun _ h => h) rfl hd k
theorem zg8_taped (hx : p.tables.exec = Jvm.exec) (hb : c.code = cc) (hts : ∀ w ∈ wsX80, w.before args s = true) (hown : s.vm.findClass own = some m.cls) (hw : zH D Y ad kd RL M J A H0 H locs s) (ho : kd o = 8) (hlink : (Cond.fieldLink own index "SlewRailsModel" "taped" "I").before args s = true) (hd : decode cc pc = .ok (.getfield index, 3)) (k : W p l e R s m args below meth c H locs cells slots Q (F0 m (pc + 3) ls (.int (M o 1) :: rest))) : W p l e R s m args below meth c H locs cells slots Q (F0 m pc ls (.ref (ad o) :: rest)) := by
  obtain ⟨q0, hq, -⟩ := zW_get (Y := Y) (ad := ad) (kd := kd) (M := M) (J := J) ((hw.2.2.2.2.2.2.1 o).1 (by omega))
  rw [z_is_8 ho] at hq
  exact va_get (ci := 8) (C := RX8) (T := TX8) (N := 26) hx hb hts (fun _ h => h) hown hw.2.1 hw.1 q0 hq rfl 6 (by decide) hlink (fun _ h => h) rfl hd k
theorem zp8_taped {v : Int32} (hx : p.tables.exec = Jvm.exec) (hb : c.code = cc) (hts : ∀ w ∈ wsX80, w.before args s = true) (hown : s.vm.findClass own = some m.cls) (hw : zH D Y ad kd RL M J A H0 H locs s) (ho : kd o = 8) (hlink : (Cond.fieldLink own index "SlewRailsModel" "taped" "I").before args s = true) (hd : decode cc pc = .ok (.putfield index, 3)) (k : ∀ (H1 : Heap) (locs1 : List Loc), zH D Y ad kd RL (va_up M o (upd (M o) 1 v)) J A H0 H1 locs1 s → W p l e R s m args below meth c H1 locs1 cells slots Q (F0 m (pc + 3) ls rest)) : W p l e R s m args below meth c H locs cells slots Q (F0 m pc ls (.int v :: .ref (ad o) :: rest)) := by
  obtain ⟨q0, hq, hk⟩ := zW_get (Y := Y) (ad := ad) (kd := kd) (M := M) (J := J) ((hw.2.2.2.2.2.2.1 o).1 (by omega))
  rw [z_is_8 ho] at hq
  refine va_put (ci := 8) (C := RX8) (T := TX8) (N := 26) (ty := .int) (v := .int v) hx hb hts (fun _ h => h) tyX8 tyX8_ok nmX8 hown hw.2.1 hw.1 hw.2.2.1 hw.2.2.2.1 q0 hq rfl 6 (by decide) hlink (fun _ h => h) rfl (by decide +kernel) (vp_nar_int v) rfl (by simp) hd (fun H1 locs1 hP hD hS => ?_)
  refine k H1 locs1 (hw.next ?_ hS (hw.2.2.2.2.2.2.2.1.upM (by omega)))
  rw [← zW_set (M' := (va_up M o (upd (M o) 1 v))) (J' := J) hw.2.2.1 hk (z_is_8 ho) (fun x hx => zc_other (va_up_ne _ _ hx) (rfl))]
  have e : .inr (8, [.ref (ad (o + 1)), .ref (ad (o + 2)), .ref (ad (o + 3)), .ref (ad (o + 4)), .int ((va_up M o (upd (M o) 1 v)) o 0), .ref (ad (o + 5)), .int ((va_up M o (upd (M o) 1 v)) o 1), .int ((va_up M o (upd (M o) 1 v)) o 2), .int ((va_up M o (upd (M o) 1 v)) o 3), .int ((va_up M o (upd (M o) 1 v)) o 4), .int ((va_up M o (upd (M o) 1 v)) o 5), .int ((va_up M o (upd (M o) 1 v)) o 6), .int ((va_up M o (upd (M o) 1 v)) o 7), .ref (ad (o + 6)), .ref (ad (o + 7)), .ref (ad (o + 8)), .ref (ad (o + 9)), .int ((va_up M o (upd (M o) 1 v)) o 8), .ref (ad (o + 10)), .ref (ad (o + 11)), .ref (ad (o + 12)), .ref (ad (o + 13)), .int ((va_up M o (upd (M o) 1 v)) o 9), .int ((va_up M o (upd (M o) 1 v)) o 10), .ref (ad (o + 14)), .int ((va_up M o (upd (M o) 1 v)) o 11)]) = (.inr (8, List.set [.ref (ad (o + 1)), .ref (ad (o + 2)), .ref (ad (o + 3)), .ref (ad (o + 4)), .int (M o 0), .ref (ad (o + 5)), .int (M o 1), .int (M o 2), .int (M o 3), .int (M o 4), .int (M o 5), .int (M o 6), .int (M o 7), .ref (ad (o + 6)), .ref (ad (o + 7)), .ref (ad (o + 8)), .ref (ad (o + 9)), .int (M o 8), .ref (ad (o + 10)), .ref (ad (o + 11)), .ref (ad (o + 12)), .ref (ad (o + 13)), .int (M o 9), .int (M o 10), .ref (ad (o + 14)), .int (M o 11)] 6 (.int v)) : va_E) := by simp [va_up_self, List.set, upd, vp_updL]
  rw [e]; exact hP
theorem zg8_faultKind (hx : p.tables.exec = Jvm.exec) (hb : c.code = cc) (hts : ∀ w ∈ wsX80, w.before args s = true) (hown : s.vm.findClass own = some m.cls) (hw : zH D Y ad kd RL M J A H0 H locs s) (ho : kd o = 8) (hlink : (Cond.fieldLink own index "SlewRailsModel" "faultKind" "I").before args s = true) (hd : decode cc pc = .ok (.getfield index, 3)) (k : W p l e R s m args below meth c H locs cells slots Q (F0 m (pc + 3) ls (.int (M o 2) :: rest))) : W p l e R s m args below meth c H locs cells slots Q (F0 m pc ls (.ref (ad o) :: rest)) := by
  obtain ⟨q0, hq, -⟩ := zW_get (Y := Y) (ad := ad) (kd := kd) (M := M) (J := J) ((hw.2.2.2.2.2.2.1 o).1 (by omega))
  rw [z_is_8 ho] at hq
  exact va_get (ci := 8) (C := RX8) (T := TX8) (N := 26) hx hb hts (fun _ h => h) hown hw.2.1 hw.1 q0 hq rfl 7 (by decide) hlink (fun _ h => h) rfl hd k
theorem zp8_faultKind {v : Int32} (hx : p.tables.exec = Jvm.exec) (hb : c.code = cc) (hts : ∀ w ∈ wsX80, w.before args s = true) (hown : s.vm.findClass own = some m.cls) (hw : zH D Y ad kd RL M J A H0 H locs s) (ho : kd o = 8) (hlink : (Cond.fieldLink own index "SlewRailsModel" "faultKind" "I").before args s = true) (hd : decode cc pc = .ok (.putfield index, 3)) (k : ∀ (H1 : Heap) (locs1 : List Loc), zH D Y ad kd RL (va_up M o (upd (M o) 2 v)) J A H0 H1 locs1 s → W p l e R s m args below meth c H1 locs1 cells slots Q (F0 m (pc + 3) ls rest)) : W p l e R s m args below meth c H locs cells slots Q (F0 m pc ls (.int v :: .ref (ad o) :: rest)) := by
  obtain ⟨q0, hq, hk⟩ := zW_get (Y := Y) (ad := ad) (kd := kd) (M := M) (J := J) ((hw.2.2.2.2.2.2.1 o).1 (by omega))
  rw [z_is_8 ho] at hq
  refine va_put (ci := 8) (C := RX8) (T := TX8) (N := 26) (ty := .int) (v := .int v) hx hb hts (fun _ h => h) tyX8 tyX8_ok nmX8 hown hw.2.1 hw.1 hw.2.2.1 hw.2.2.2.1 q0 hq rfl 7 (by decide) hlink (fun _ h => h) rfl (by decide +kernel) (vp_nar_int v) rfl (by simp) hd (fun H1 locs1 hP hD hS => ?_)
  refine k H1 locs1 (hw.next ?_ hS (hw.2.2.2.2.2.2.2.1.upM (by omega)))
  rw [← zW_set (M' := (va_up M o (upd (M o) 2 v))) (J' := J) hw.2.2.1 hk (z_is_8 ho) (fun x hx => zc_other (va_up_ne _ _ hx) (rfl))]
  have e : .inr (8, [.ref (ad (o + 1)), .ref (ad (o + 2)), .ref (ad (o + 3)), .ref (ad (o + 4)), .int ((va_up M o (upd (M o) 2 v)) o 0), .ref (ad (o + 5)), .int ((va_up M o (upd (M o) 2 v)) o 1), .int ((va_up M o (upd (M o) 2 v)) o 2), .int ((va_up M o (upd (M o) 2 v)) o 3), .int ((va_up M o (upd (M o) 2 v)) o 4), .int ((va_up M o (upd (M o) 2 v)) o 5), .int ((va_up M o (upd (M o) 2 v)) o 6), .int ((va_up M o (upd (M o) 2 v)) o 7), .ref (ad (o + 6)), .ref (ad (o + 7)), .ref (ad (o + 8)), .ref (ad (o + 9)), .int ((va_up M o (upd (M o) 2 v)) o 8), .ref (ad (o + 10)), .ref (ad (o + 11)), .ref (ad (o + 12)), .ref (ad (o + 13)), .int ((va_up M o (upd (M o) 2 v)) o 9), .int ((va_up M o (upd (M o) 2 v)) o 10), .ref (ad (o + 14)), .int ((va_up M o (upd (M o) 2 v)) o 11)]) = (.inr (8, List.set [.ref (ad (o + 1)), .ref (ad (o + 2)), .ref (ad (o + 3)), .ref (ad (o + 4)), .int (M o 0), .ref (ad (o + 5)), .int (M o 1), .int (M o 2), .int (M o 3), .int (M o 4), .int (M o 5), .int (M o 6), .int (M o 7), .ref (ad (o + 6)), .ref (ad (o + 7)), .ref (ad (o + 8)), .ref (ad (o + 9)), .int (M o 8), .ref (ad (o + 10)), .ref (ad (o + 11)), .ref (ad (o + 12)), .ref (ad (o + 13)), .int (M o 9), .int (M o 10), .ref (ad (o + 14)), .int (M o 11)] 7 (.int v)) : va_E) := by simp [va_up_self, List.set, upd, vp_updL]
  rw [e]; exact hP
theorem zg8_faultPlace (hx : p.tables.exec = Jvm.exec) (hb : c.code = cc) (hts : ∀ w ∈ wsX80, w.before args s = true) (hown : s.vm.findClass own = some m.cls) (hw : zH D Y ad kd RL M J A H0 H locs s) (ho : kd o = 8) (hlink : (Cond.fieldLink own index "SlewRailsModel" "faultPlace" "I").before args s = true) (hd : decode cc pc = .ok (.getfield index, 3)) (k : W p l e R s m args below meth c H locs cells slots Q (F0 m (pc + 3) ls (.int (M o 3) :: rest))) : W p l e R s m args below meth c H locs cells slots Q (F0 m pc ls (.ref (ad o) :: rest)) := by
  obtain ⟨q0, hq, -⟩ := zW_get (Y := Y) (ad := ad) (kd := kd) (M := M) (J := J) ((hw.2.2.2.2.2.2.1 o).1 (by omega))
  rw [z_is_8 ho] at hq
  exact va_get (ci := 8) (C := RX8) (T := TX8) (N := 26) hx hb hts (fun _ h => h) hown hw.2.1 hw.1 q0 hq rfl 8 (by decide) hlink (fun _ h => h) rfl hd k
theorem zp8_faultPlace {v : Int32} (hx : p.tables.exec = Jvm.exec) (hb : c.code = cc) (hts : ∀ w ∈ wsX80, w.before args s = true) (hown : s.vm.findClass own = some m.cls) (hw : zH D Y ad kd RL M J A H0 H locs s) (ho : kd o = 8) (hlink : (Cond.fieldLink own index "SlewRailsModel" "faultPlace" "I").before args s = true) (hd : decode cc pc = .ok (.putfield index, 3)) (k : ∀ (H1 : Heap) (locs1 : List Loc), zH D Y ad kd RL (va_up M o (upd (M o) 3 v)) J A H0 H1 locs1 s → W p l e R s m args below meth c H1 locs1 cells slots Q (F0 m (pc + 3) ls rest)) : W p l e R s m args below meth c H locs cells slots Q (F0 m pc ls (.int v :: .ref (ad o) :: rest)) := by
  obtain ⟨q0, hq, hk⟩ := zW_get (Y := Y) (ad := ad) (kd := kd) (M := M) (J := J) ((hw.2.2.2.2.2.2.1 o).1 (by omega))
  rw [z_is_8 ho] at hq
  refine va_put (ci := 8) (C := RX8) (T := TX8) (N := 26) (ty := .int) (v := .int v) hx hb hts (fun _ h => h) tyX8 tyX8_ok nmX8 hown hw.2.1 hw.1 hw.2.2.1 hw.2.2.2.1 q0 hq rfl 8 (by decide) hlink (fun _ h => h) rfl (by decide +kernel) (vp_nar_int v) rfl (by simp) hd (fun H1 locs1 hP hD hS => ?_)
  refine k H1 locs1 (hw.next ?_ hS (hw.2.2.2.2.2.2.2.1.upM (by omega)))
  rw [← zW_set (M' := (va_up M o (upd (M o) 3 v))) (J' := J) hw.2.2.1 hk (z_is_8 ho) (fun x hx => zc_other (va_up_ne _ _ hx) (rfl))]
  have e : .inr (8, [.ref (ad (o + 1)), .ref (ad (o + 2)), .ref (ad (o + 3)), .ref (ad (o + 4)), .int ((va_up M o (upd (M o) 3 v)) o 0), .ref (ad (o + 5)), .int ((va_up M o (upd (M o) 3 v)) o 1), .int ((va_up M o (upd (M o) 3 v)) o 2), .int ((va_up M o (upd (M o) 3 v)) o 3), .int ((va_up M o (upd (M o) 3 v)) o 4), .int ((va_up M o (upd (M o) 3 v)) o 5), .int ((va_up M o (upd (M o) 3 v)) o 6), .int ((va_up M o (upd (M o) 3 v)) o 7), .ref (ad (o + 6)), .ref (ad (o + 7)), .ref (ad (o + 8)), .ref (ad (o + 9)), .int ((va_up M o (upd (M o) 3 v)) o 8), .ref (ad (o + 10)), .ref (ad (o + 11)), .ref (ad (o + 12)), .ref (ad (o + 13)), .int ((va_up M o (upd (M o) 3 v)) o 9), .int ((va_up M o (upd (M o) 3 v)) o 10), .ref (ad (o + 14)), .int ((va_up M o (upd (M o) 3 v)) o 11)]) = (.inr (8, List.set [.ref (ad (o + 1)), .ref (ad (o + 2)), .ref (ad (o + 3)), .ref (ad (o + 4)), .int (M o 0), .ref (ad (o + 5)), .int (M o 1), .int (M o 2), .int (M o 3), .int (M o 4), .int (M o 5), .int (M o 6), .int (M o 7), .ref (ad (o + 6)), .ref (ad (o + 7)), .ref (ad (o + 8)), .ref (ad (o + 9)), .int (M o 8), .ref (ad (o + 10)), .ref (ad (o + 11)), .ref (ad (o + 12)), .ref (ad (o + 13)), .int (M o 9), .int (M o 10), .ref (ad (o + 14)), .int (M o 11)] 8 (.int v)) : va_E) := by simp [va_up_self, List.set, upd, vp_updL]
  rw [e]; exact hP
theorem zg8_at (hx : p.tables.exec = Jvm.exec) (hb : c.code = cc) (hts : ∀ w ∈ wsX80, w.before args s = true) (hown : s.vm.findClass own = some m.cls) (hw : zH D Y ad kd RL M J A H0 H locs s) (ho : kd o = 8) (hlink : (Cond.fieldLink own index "SlewRailsModel" "at" "I").before args s = true) (hd : decode cc pc = .ok (.getfield index, 3)) (k : W p l e R s m args below meth c H locs cells slots Q (F0 m (pc + 3) ls (.int (M o 4) :: rest))) : W p l e R s m args below meth c H locs cells slots Q (F0 m pc ls (.ref (ad o) :: rest)) := by
  obtain ⟨q0, hq, -⟩ := zW_get (Y := Y) (ad := ad) (kd := kd) (M := M) (J := J) ((hw.2.2.2.2.2.2.1 o).1 (by omega))
  rw [z_is_8 ho] at hq
  exact va_get (ci := 8) (C := RX8) (T := TX8) (N := 26) hx hb hts (fun _ h => h) hown hw.2.1 hw.1 q0 hq rfl 9 (by decide) hlink (fun _ h => h) rfl hd k
theorem zp8_at {v : Int32} (hx : p.tables.exec = Jvm.exec) (hb : c.code = cc) (hts : ∀ w ∈ wsX80, w.before args s = true) (hown : s.vm.findClass own = some m.cls) (hw : zH D Y ad kd RL M J A H0 H locs s) (ho : kd o = 8) (hlink : (Cond.fieldLink own index "SlewRailsModel" "at" "I").before args s = true) (hd : decode cc pc = .ok (.putfield index, 3)) (k : ∀ (H1 : Heap) (locs1 : List Loc), zH D Y ad kd RL (va_up M o (upd (M o) 4 v)) J A H0 H1 locs1 s → W p l e R s m args below meth c H1 locs1 cells slots Q (F0 m (pc + 3) ls rest)) : W p l e R s m args below meth c H locs cells slots Q (F0 m pc ls (.int v :: .ref (ad o) :: rest)) := by
  obtain ⟨q0, hq, hk⟩ := zW_get (Y := Y) (ad := ad) (kd := kd) (M := M) (J := J) ((hw.2.2.2.2.2.2.1 o).1 (by omega))
  rw [z_is_8 ho] at hq
  refine va_put (ci := 8) (C := RX8) (T := TX8) (N := 26) (ty := .int) (v := .int v) hx hb hts (fun _ h => h) tyX8 tyX8_ok nmX8 hown hw.2.1 hw.1 hw.2.2.1 hw.2.2.2.1 q0 hq rfl 9 (by decide) hlink (fun _ h => h) rfl (by decide +kernel) (vp_nar_int v) rfl (by simp) hd (fun H1 locs1 hP hD hS => ?_)
  refine k H1 locs1 (hw.next ?_ hS (hw.2.2.2.2.2.2.2.1.upM (by omega)))
  rw [← zW_set (M' := (va_up M o (upd (M o) 4 v))) (J' := J) hw.2.2.1 hk (z_is_8 ho) (fun x hx => zc_other (va_up_ne _ _ hx) (rfl))]
  have e : .inr (8, [.ref (ad (o + 1)), .ref (ad (o + 2)), .ref (ad (o + 3)), .ref (ad (o + 4)), .int ((va_up M o (upd (M o) 4 v)) o 0), .ref (ad (o + 5)), .int ((va_up M o (upd (M o) 4 v)) o 1), .int ((va_up M o (upd (M o) 4 v)) o 2), .int ((va_up M o (upd (M o) 4 v)) o 3), .int ((va_up M o (upd (M o) 4 v)) o 4), .int ((va_up M o (upd (M o) 4 v)) o 5), .int ((va_up M o (upd (M o) 4 v)) o 6), .int ((va_up M o (upd (M o) 4 v)) o 7), .ref (ad (o + 6)), .ref (ad (o + 7)), .ref (ad (o + 8)), .ref (ad (o + 9)), .int ((va_up M o (upd (M o) 4 v)) o 8), .ref (ad (o + 10)), .ref (ad (o + 11)), .ref (ad (o + 12)), .ref (ad (o + 13)), .int ((va_up M o (upd (M o) 4 v)) o 9), .int ((va_up M o (upd (M o) 4 v)) o 10), .ref (ad (o + 14)), .int ((va_up M o (upd (M o) 4 v)) o 11)]) = (.inr (8, List.set [.ref (ad (o + 1)), .ref (ad (o + 2)), .ref (ad (o + 3)), .ref (ad (o + 4)), .int (M o 0), .ref (ad (o + 5)), .int (M o 1), .int (M o 2), .int (M o 3), .int (M o 4), .int (M o 5), .int (M o 6), .int (M o 7), .ref (ad (o + 6)), .ref (ad (o + 7)), .ref (ad (o + 8)), .ref (ad (o + 9)), .int (M o 8), .ref (ad (o + 10)), .ref (ad (o + 11)), .ref (ad (o + 12)), .ref (ad (o + 13)), .int (M o 9), .int (M o 10), .ref (ad (o + 14)), .int (M o 11)] 9 (.int v)) : va_E) := by simp [va_up_self, List.set, upd, vp_updL]
  rw [e]; exact hP
theorem zg8_start (hx : p.tables.exec = Jvm.exec) (hb : c.code = cc) (hts : ∀ w ∈ wsX80, w.before args s = true) (hown : s.vm.findClass own = some m.cls) (hw : zH D Y ad kd RL M J A H0 H locs s) (ho : kd o = 8) (hlink : (Cond.fieldLink own index "SlewRailsModel" "start" "I").before args s = true) (hd : decode cc pc = .ok (.getfield index, 3)) (k : W p l e R s m args below meth c H locs cells slots Q (F0 m (pc + 3) ls (.int (M o 5) :: rest))) : W p l e R s m args below meth c H locs cells slots Q (F0 m pc ls (.ref (ad o) :: rest)) := by
  obtain ⟨q0, hq, -⟩ := zW_get (Y := Y) (ad := ad) (kd := kd) (M := M) (J := J) ((hw.2.2.2.2.2.2.1 o).1 (by omega))
  rw [z_is_8 ho] at hq
  exact va_get (ci := 8) (C := RX8) (T := TX8) (N := 26) hx hb hts (fun _ h => h) hown hw.2.1 hw.1 q0 hq rfl 10 (by decide) hlink (fun _ h => h) rfl hd k
theorem zp8_start {v : Int32} (hx : p.tables.exec = Jvm.exec) (hb : c.code = cc) (hts : ∀ w ∈ wsX80, w.before args s = true) (hown : s.vm.findClass own = some m.cls) (hw : zH D Y ad kd RL M J A H0 H locs s) (ho : kd o = 8) (hlink : (Cond.fieldLink own index "SlewRailsModel" "start" "I").before args s = true) (hd : decode cc pc = .ok (.putfield index, 3)) (k : ∀ (H1 : Heap) (locs1 : List Loc), zH D Y ad kd RL (va_up M o (upd (M o) 5 v)) J A H0 H1 locs1 s → W p l e R s m args below meth c H1 locs1 cells slots Q (F0 m (pc + 3) ls rest)) : W p l e R s m args below meth c H locs cells slots Q (F0 m pc ls (.int v :: .ref (ad o) :: rest)) := by
  obtain ⟨q0, hq, hk⟩ := zW_get (Y := Y) (ad := ad) (kd := kd) (M := M) (J := J) ((hw.2.2.2.2.2.2.1 o).1 (by omega))
  rw [z_is_8 ho] at hq
  refine va_put (ci := 8) (C := RX8) (T := TX8) (N := 26) (ty := .int) (v := .int v) hx hb hts (fun _ h => h) tyX8 tyX8_ok nmX8 hown hw.2.1 hw.1 hw.2.2.1 hw.2.2.2.1 q0 hq rfl 10 (by decide) hlink (fun _ h => h) rfl (by decide +kernel) (vp_nar_int v) rfl (by simp) hd (fun H1 locs1 hP hD hS => ?_)
  refine k H1 locs1 (hw.next ?_ hS (hw.2.2.2.2.2.2.2.1.upM (by omega)))
  rw [← zW_set (M' := (va_up M o (upd (M o) 5 v))) (J' := J) hw.2.2.1 hk (z_is_8 ho) (fun x hx => zc_other (va_up_ne _ _ hx) (rfl))]
  have e : .inr (8, [.ref (ad (o + 1)), .ref (ad (o + 2)), .ref (ad (o + 3)), .ref (ad (o + 4)), .int ((va_up M o (upd (M o) 5 v)) o 0), .ref (ad (o + 5)), .int ((va_up M o (upd (M o) 5 v)) o 1), .int ((va_up M o (upd (M o) 5 v)) o 2), .int ((va_up M o (upd (M o) 5 v)) o 3), .int ((va_up M o (upd (M o) 5 v)) o 4), .int ((va_up M o (upd (M o) 5 v)) o 5), .int ((va_up M o (upd (M o) 5 v)) o 6), .int ((va_up M o (upd (M o) 5 v)) o 7), .ref (ad (o + 6)), .ref (ad (o + 7)), .ref (ad (o + 8)), .ref (ad (o + 9)), .int ((va_up M o (upd (M o) 5 v)) o 8), .ref (ad (o + 10)), .ref (ad (o + 11)), .ref (ad (o + 12)), .ref (ad (o + 13)), .int ((va_up M o (upd (M o) 5 v)) o 9), .int ((va_up M o (upd (M o) 5 v)) o 10), .ref (ad (o + 14)), .int ((va_up M o (upd (M o) 5 v)) o 11)]) = (.inr (8, List.set [.ref (ad (o + 1)), .ref (ad (o + 2)), .ref (ad (o + 3)), .ref (ad (o + 4)), .int (M o 0), .ref (ad (o + 5)), .int (M o 1), .int (M o 2), .int (M o 3), .int (M o 4), .int (M o 5), .int (M o 6), .int (M o 7), .ref (ad (o + 6)), .ref (ad (o + 7)), .ref (ad (o + 8)), .ref (ad (o + 9)), .int (M o 8), .ref (ad (o + 10)), .ref (ad (o + 11)), .ref (ad (o + 12)), .ref (ad (o + 13)), .int (M o 9), .int (M o 10), .ref (ad (o + 14)), .int (M o 11)] 10 (.int v)) : va_E) := by simp [va_up_self, List.set, upd, vp_updL]
  rw [e]; exact hP
theorem zg8_token (hx : p.tables.exec = Jvm.exec) (hb : c.code = cc) (hts : ∀ w ∈ wsX80, w.before args s = true) (hown : s.vm.findClass own = some m.cls) (hw : zH D Y ad kd RL M J A H0 H locs s) (ho : kd o = 8) (hlink : (Cond.fieldLink own index "SlewRailsModel" "token" "I").before args s = true) (hd : decode cc pc = .ok (.getfield index, 3)) (k : W p l e R s m args below meth c H locs cells slots Q (F0 m (pc + 3) ls (.int (M o 6) :: rest))) : W p l e R s m args below meth c H locs cells slots Q (F0 m pc ls (.ref (ad o) :: rest)) := by
  obtain ⟨q0, hq, -⟩ := zW_get (Y := Y) (ad := ad) (kd := kd) (M := M) (J := J) ((hw.2.2.2.2.2.2.1 o).1 (by omega))
  rw [z_is_8 ho] at hq
  exact va_get (ci := 8) (C := RX8) (T := TX8) (N := 26) hx hb hts (fun _ h => h) hown hw.2.1 hw.1 q0 hq rfl 11 (by decide) hlink (fun _ h => h) rfl hd k
theorem zp8_token {v : Int32} (hx : p.tables.exec = Jvm.exec) (hb : c.code = cc) (hts : ∀ w ∈ wsX80, w.before args s = true) (hown : s.vm.findClass own = some m.cls) (hw : zH D Y ad kd RL M J A H0 H locs s) (ho : kd o = 8) (hlink : (Cond.fieldLink own index "SlewRailsModel" "token" "I").before args s = true) (hd : decode cc pc = .ok (.putfield index, 3)) (k : ∀ (H1 : Heap) (locs1 : List Loc), zH D Y ad kd RL (va_up M o (upd (M o) 6 v)) J A H0 H1 locs1 s → W p l e R s m args below meth c H1 locs1 cells slots Q (F0 m (pc + 3) ls rest)) : W p l e R s m args below meth c H locs cells slots Q (F0 m pc ls (.int v :: .ref (ad o) :: rest)) := by
  obtain ⟨q0, hq, hk⟩ := zW_get (Y := Y) (ad := ad) (kd := kd) (M := M) (J := J) ((hw.2.2.2.2.2.2.1 o).1 (by omega))
  rw [z_is_8 ho] at hq
  refine va_put (ci := 8) (C := RX8) (T := TX8) (N := 26) (ty := .int) (v := .int v) hx hb hts (fun _ h => h) tyX8 tyX8_ok nmX8 hown hw.2.1 hw.1 hw.2.2.1 hw.2.2.2.1 q0 hq rfl 11 (by decide) hlink (fun _ h => h) rfl (by decide +kernel) (vp_nar_int v) rfl (by simp) hd (fun H1 locs1 hP hD hS => ?_)
  refine k H1 locs1 (hw.next ?_ hS (hw.2.2.2.2.2.2.2.1.upM (by omega)))
  rw [← zW_set (M' := (va_up M o (upd (M o) 6 v))) (J' := J) hw.2.2.1 hk (z_is_8 ho) (fun x hx => zc_other (va_up_ne _ _ hx) (rfl))]
  have e : .inr (8, [.ref (ad (o + 1)), .ref (ad (o + 2)), .ref (ad (o + 3)), .ref (ad (o + 4)), .int ((va_up M o (upd (M o) 6 v)) o 0), .ref (ad (o + 5)), .int ((va_up M o (upd (M o) 6 v)) o 1), .int ((va_up M o (upd (M o) 6 v)) o 2), .int ((va_up M o (upd (M o) 6 v)) o 3), .int ((va_up M o (upd (M o) 6 v)) o 4), .int ((va_up M o (upd (M o) 6 v)) o 5), .int ((va_up M o (upd (M o) 6 v)) o 6), .int ((va_up M o (upd (M o) 6 v)) o 7), .ref (ad (o + 6)), .ref (ad (o + 7)), .ref (ad (o + 8)), .ref (ad (o + 9)), .int ((va_up M o (upd (M o) 6 v)) o 8), .ref (ad (o + 10)), .ref (ad (o + 11)), .ref (ad (o + 12)), .ref (ad (o + 13)), .int ((va_up M o (upd (M o) 6 v)) o 9), .int ((va_up M o (upd (M o) 6 v)) o 10), .ref (ad (o + 14)), .int ((va_up M o (upd (M o) 6 v)) o 11)]) = (.inr (8, List.set [.ref (ad (o + 1)), .ref (ad (o + 2)), .ref (ad (o + 3)), .ref (ad (o + 4)), .int (M o 0), .ref (ad (o + 5)), .int (M o 1), .int (M o 2), .int (M o 3), .int (M o 4), .int (M o 5), .int (M o 6), .int (M o 7), .ref (ad (o + 6)), .ref (ad (o + 7)), .ref (ad (o + 8)), .ref (ad (o + 9)), .int (M o 8), .ref (ad (o + 10)), .ref (ad (o + 11)), .ref (ad (o + 12)), .ref (ad (o + 13)), .int (M o 9), .int (M o 10), .ref (ad (o + 14)), .int (M o 11)] 11 (.int v)) : va_E) := by simp [va_up_self, List.set, upd, vp_updL]
  rw [e]; exact hP
theorem zg8_value (hx : p.tables.exec = Jvm.exec) (hb : c.code = cc) (hts : ∀ w ∈ wsX80, w.before args s = true) (hown : s.vm.findClass own = some m.cls) (hw : zH D Y ad kd RL M J A H0 H locs s) (ho : kd o = 8) (hlink : (Cond.fieldLink own index "SlewRailsModel" "value" "I").before args s = true) (hd : decode cc pc = .ok (.getfield index, 3)) (k : W p l e R s m args below meth c H locs cells slots Q (F0 m (pc + 3) ls (.int (M o 7) :: rest))) : W p l e R s m args below meth c H locs cells slots Q (F0 m pc ls (.ref (ad o) :: rest)) := by
  obtain ⟨q0, hq, -⟩ := zW_get (Y := Y) (ad := ad) (kd := kd) (M := M) (J := J) ((hw.2.2.2.2.2.2.1 o).1 (by omega))
  rw [z_is_8 ho] at hq
  exact va_get (ci := 8) (C := RX8) (T := TX8) (N := 26) hx hb hts (fun _ h => h) hown hw.2.1 hw.1 q0 hq rfl 12 (by decide) hlink (fun _ h => h) rfl hd k
theorem zp8_value {v : Int32} (hx : p.tables.exec = Jvm.exec) (hb : c.code = cc) (hts : ∀ w ∈ wsX80, w.before args s = true) (hown : s.vm.findClass own = some m.cls) (hw : zH D Y ad kd RL M J A H0 H locs s) (ho : kd o = 8) (hlink : (Cond.fieldLink own index "SlewRailsModel" "value" "I").before args s = true) (hd : decode cc pc = .ok (.putfield index, 3)) (k : ∀ (H1 : Heap) (locs1 : List Loc), zH D Y ad kd RL (va_up M o (upd (M o) 7 v)) J A H0 H1 locs1 s → W p l e R s m args below meth c H1 locs1 cells slots Q (F0 m (pc + 3) ls rest)) : W p l e R s m args below meth c H locs cells slots Q (F0 m pc ls (.int v :: .ref (ad o) :: rest)) := by
  obtain ⟨q0, hq, hk⟩ := zW_get (Y := Y) (ad := ad) (kd := kd) (M := M) (J := J) ((hw.2.2.2.2.2.2.1 o).1 (by omega))
  rw [z_is_8 ho] at hq
  refine va_put (ci := 8) (C := RX8) (T := TX8) (N := 26) (ty := .int) (v := .int v) hx hb hts (fun _ h => h) tyX8 tyX8_ok nmX8 hown hw.2.1 hw.1 hw.2.2.1 hw.2.2.2.1 q0 hq rfl 12 (by decide) hlink (fun _ h => h) rfl (by decide +kernel) (vp_nar_int v) rfl (by simp) hd (fun H1 locs1 hP hD hS => ?_)
  refine k H1 locs1 (hw.next ?_ hS (hw.2.2.2.2.2.2.2.1.upM (by omega)))
  rw [← zW_set (M' := (va_up M o (upd (M o) 7 v))) (J' := J) hw.2.2.1 hk (z_is_8 ho) (fun x hx => zc_other (va_up_ne _ _ hx) (rfl))]
  have e : .inr (8, [.ref (ad (o + 1)), .ref (ad (o + 2)), .ref (ad (o + 3)), .ref (ad (o + 4)), .int ((va_up M o (upd (M o) 7 v)) o 0), .ref (ad (o + 5)), .int ((va_up M o (upd (M o) 7 v)) o 1), .int ((va_up M o (upd (M o) 7 v)) o 2), .int ((va_up M o (upd (M o) 7 v)) o 3), .int ((va_up M o (upd (M o) 7 v)) o 4), .int ((va_up M o (upd (M o) 7 v)) o 5), .int ((va_up M o (upd (M o) 7 v)) o 6), .int ((va_up M o (upd (M o) 7 v)) o 7), .ref (ad (o + 6)), .ref (ad (o + 7)), .ref (ad (o + 8)), .ref (ad (o + 9)), .int ((va_up M o (upd (M o) 7 v)) o 8), .ref (ad (o + 10)), .ref (ad (o + 11)), .ref (ad (o + 12)), .ref (ad (o + 13)), .int ((va_up M o (upd (M o) 7 v)) o 9), .int ((va_up M o (upd (M o) 7 v)) o 10), .ref (ad (o + 14)), .int ((va_up M o (upd (M o) 7 v)) o 11)]) = (.inr (8, List.set [.ref (ad (o + 1)), .ref (ad (o + 2)), .ref (ad (o + 3)), .ref (ad (o + 4)), .int (M o 0), .ref (ad (o + 5)), .int (M o 1), .int (M o 2), .int (M o 3), .int (M o 4), .int (M o 5), .int (M o 6), .int (M o 7), .ref (ad (o + 6)), .ref (ad (o + 7)), .ref (ad (o + 8)), .ref (ad (o + 9)), .int (M o 8), .ref (ad (o + 10)), .ref (ad (o + 11)), .ref (ad (o + 12)), .ref (ad (o + 13)), .int (M o 9), .int (M o 10), .ref (ad (o + 14)), .int (M o 11)] 12 (.int v)) : va_E) := by simp [va_up_self, List.set, upd, vp_updL]
  rw [e]; exact hP
theorem zg8_now (hx : p.tables.exec = Jvm.exec) (hb : c.code = cc) (hts : ∀ w ∈ wsX80, w.before args s = true) (hown : s.vm.findClass own = some m.cls) (hw : zH D Y ad kd RL M J A H0 H locs s) (ho : kd o = 8) (hlink : (Cond.fieldLink own index "SlewRailsModel" "now" "[I").before args s = true) (hd : decode cc pc = .ok (.getfield index, 3)) (k : W p l e R s m args below meth c H locs cells slots Q (F0 m (pc + 3) ls (.ref (ad (o + 6)) :: rest))) : W p l e R s m args below meth c H locs cells slots Q (F0 m pc ls (.ref (ad o) :: rest)) := by
  obtain ⟨q0, hq, -⟩ := zW_get (Y := Y) (ad := ad) (kd := kd) (M := M) (J := J) ((hw.2.2.2.2.2.2.1 o).1 (by omega))
  rw [z_is_8 ho] at hq
  exact va_get (ci := 8) (C := RX8) (T := TX8) (N := 26) hx hb hts (fun _ h => h) hown hw.2.1 hw.1 q0 hq rfl 13 (by decide) hlink (fun _ h => h) rfl hd k
theorem zg8_draft (hx : p.tables.exec = Jvm.exec) (hb : c.code = cc) (hts : ∀ w ∈ wsX80, w.before args s = true) (hown : s.vm.findClass own = some m.cls) (hw : zH D Y ad kd RL M J A H0 H locs s) (ho : kd o = 8) (hlink : (Cond.fieldLink own index "SlewRailsModel" "draft" "[I").before args s = true) (hd : decode cc pc = .ok (.getfield index, 3)) (k : W p l e R s m args below meth c H locs cells slots Q (F0 m (pc + 3) ls (.ref (ad (o + 7)) :: rest))) : W p l e R s m args below meth c H locs cells slots Q (F0 m pc ls (.ref (ad o) :: rest)) := by
  obtain ⟨q0, hq, -⟩ := zW_get (Y := Y) (ad := ad) (kd := kd) (M := M) (J := J) ((hw.2.2.2.2.2.2.1 o).1 (by omega))
  rw [z_is_8 ho] at hq
  exact va_get (ci := 8) (C := RX8) (T := TX8) (N := 26) hx hb hts (fun _ h => h) hown hw.2.1 hw.1 q0 hq rfl 14 (by decide) hlink (fun _ h => h) rfl hd k
theorem zg8_tried (hx : p.tables.exec = Jvm.exec) (hb : c.code = cc) (hts : ∀ w ∈ wsX80, w.before args s = true) (hown : s.vm.findClass own = some m.cls) (hw : zH D Y ad kd RL M J A H0 H locs s) (ho : kd o = 8) (hlink : (Cond.fieldLink own index "SlewRailsModel" "tried" "[I").before args s = true) (hd : decode cc pc = .ok (.getfield index, 3)) (k : W p l e R s m args below meth c H locs cells slots Q (F0 m (pc + 3) ls (.ref (ad (o + 8)) :: rest))) : W p l e R s m args below meth c H locs cells slots Q (F0 m pc ls (.ref (ad o) :: rest)) := by
  obtain ⟨q0, hq, -⟩ := zW_get (Y := Y) (ad := ad) (kd := kd) (M := M) (J := J) ((hw.2.2.2.2.2.2.1 o).1 (by omega))
  rw [z_is_8 ho] at hq
  exact va_get (ci := 8) (C := RX8) (T := TX8) (N := 26) hx hb hts (fun _ h => h) hown hw.2.1 hw.1 q0 hq rfl 15 (by decide) hlink (fun _ h => h) rfl hd k
theorem zg8_past (hx : p.tables.exec = Jvm.exec) (hb : c.code = cc) (hts : ∀ w ∈ wsX80, w.before args s = true) (hown : s.vm.findClass own = some m.cls) (hw : zH D Y ad kd RL M J A H0 H locs s) (ho : kd o = 8) (hlink : (Cond.fieldLink own index "SlewRailsModel" "past" "[I").before args s = true) (hd : decode cc pc = .ok (.getfield index, 3)) (k : W p l e R s m args below meth c H locs cells slots Q (F0 m (pc + 3) ls (.ref (ad (o + 9)) :: rest))) : W p l e R s m args below meth c H locs cells slots Q (F0 m pc ls (.ref (ad o) :: rest)) := by
  obtain ⟨q0, hq, -⟩ := zW_get (Y := Y) (ad := ad) (kd := kd) (M := M) (J := J) ((hw.2.2.2.2.2.2.1 o).1 (by omega))
  rw [z_is_8 ho] at hq
  exact va_get (ci := 8) (C := RX8) (T := TX8) (N := 26) hx hb hts (fun _ h => h) hown hw.2.1 hw.1 q0 hq rfl 16 (by decide) hlink (fun _ h => h) rfl hd k
theorem zg8_acts (hx : p.tables.exec = Jvm.exec) (hb : c.code = cc) (hts : ∀ w ∈ wsX80, w.before args s = true) (hown : s.vm.findClass own = some m.cls) (hw : zH D Y ad kd RL M J A H0 H locs s) (ho : kd o = 8) (hlink : (Cond.fieldLink own index "SlewRailsModel" "acts" "I").before args s = true) (hd : decode cc pc = .ok (.getfield index, 3)) (k : W p l e R s m args below meth c H locs cells slots Q (F0 m (pc + 3) ls (.int (M o 8) :: rest))) : W p l e R s m args below meth c H locs cells slots Q (F0 m pc ls (.ref (ad o) :: rest)) := by
  obtain ⟨q0, hq, -⟩ := zW_get (Y := Y) (ad := ad) (kd := kd) (M := M) (J := J) ((hw.2.2.2.2.2.2.1 o).1 (by omega))
  rw [z_is_8 ho] at hq
  exact va_get (ci := 8) (C := RX8) (T := TX8) (N := 26) hx hb hts (fun _ h => h) hown hw.2.1 hw.1 q0 hq rfl 17 (by decide) hlink (fun _ h => h) rfl hd k
theorem zp8_acts {v : Int32} (hx : p.tables.exec = Jvm.exec) (hb : c.code = cc) (hts : ∀ w ∈ wsX80, w.before args s = true) (hown : s.vm.findClass own = some m.cls) (hw : zH D Y ad kd RL M J A H0 H locs s) (ho : kd o = 8) (hlink : (Cond.fieldLink own index "SlewRailsModel" "acts" "I").before args s = true) (hd : decode cc pc = .ok (.putfield index, 3)) (k : ∀ (H1 : Heap) (locs1 : List Loc), zH D Y ad kd RL (va_up M o (upd (M o) 8 v)) J A H0 H1 locs1 s → W p l e R s m args below meth c H1 locs1 cells slots Q (F0 m (pc + 3) ls rest)) : W p l e R s m args below meth c H locs cells slots Q (F0 m pc ls (.int v :: .ref (ad o) :: rest)) := by
  obtain ⟨q0, hq, hk⟩ := zW_get (Y := Y) (ad := ad) (kd := kd) (M := M) (J := J) ((hw.2.2.2.2.2.2.1 o).1 (by omega))
  rw [z_is_8 ho] at hq
  refine va_put (ci := 8) (C := RX8) (T := TX8) (N := 26) (ty := .int) (v := .int v) hx hb hts (fun _ h => h) tyX8 tyX8_ok nmX8 hown hw.2.1 hw.1 hw.2.2.1 hw.2.2.2.1 q0 hq rfl 17 (by decide) hlink (fun _ h => h) rfl (by decide +kernel) (vp_nar_int v) rfl (by simp) hd (fun H1 locs1 hP hD hS => ?_)
  refine k H1 locs1 (hw.next ?_ hS (hw.2.2.2.2.2.2.2.1.upM (by omega)))
  rw [← zW_set (M' := (va_up M o (upd (M o) 8 v))) (J' := J) hw.2.2.1 hk (z_is_8 ho) (fun x hx => zc_other (va_up_ne _ _ hx) (rfl))]
  have e : .inr (8, [.ref (ad (o + 1)), .ref (ad (o + 2)), .ref (ad (o + 3)), .ref (ad (o + 4)), .int ((va_up M o (upd (M o) 8 v)) o 0), .ref (ad (o + 5)), .int ((va_up M o (upd (M o) 8 v)) o 1), .int ((va_up M o (upd (M o) 8 v)) o 2), .int ((va_up M o (upd (M o) 8 v)) o 3), .int ((va_up M o (upd (M o) 8 v)) o 4), .int ((va_up M o (upd (M o) 8 v)) o 5), .int ((va_up M o (upd (M o) 8 v)) o 6), .int ((va_up M o (upd (M o) 8 v)) o 7), .ref (ad (o + 6)), .ref (ad (o + 7)), .ref (ad (o + 8)), .ref (ad (o + 9)), .int ((va_up M o (upd (M o) 8 v)) o 8), .ref (ad (o + 10)), .ref (ad (o + 11)), .ref (ad (o + 12)), .ref (ad (o + 13)), .int ((va_up M o (upd (M o) 8 v)) o 9), .int ((va_up M o (upd (M o) 8 v)) o 10), .ref (ad (o + 14)), .int ((va_up M o (upd (M o) 8 v)) o 11)]) = (.inr (8, List.set [.ref (ad (o + 1)), .ref (ad (o + 2)), .ref (ad (o + 3)), .ref (ad (o + 4)), .int (M o 0), .ref (ad (o + 5)), .int (M o 1), .int (M o 2), .int (M o 3), .int (M o 4), .int (M o 5), .int (M o 6), .int (M o 7), .ref (ad (o + 6)), .ref (ad (o + 7)), .ref (ad (o + 8)), .ref (ad (o + 9)), .int (M o 8), .ref (ad (o + 10)), .ref (ad (o + 11)), .ref (ad (o + 12)), .ref (ad (o + 13)), .int (M o 9), .int (M o 10), .ref (ad (o + 14)), .int (M o 11)] 17 (.int v)) : va_E) := by simp [va_up_self, List.set, upd, vp_updL]
  rw [e]; exact hP
theorem zg8_images (hx : p.tables.exec = Jvm.exec) (hb : c.code = cc) (hts : ∀ w ∈ wsX80, w.before args s = true) (hown : s.vm.findClass own = some m.cls) (hw : zH D Y ad kd RL M J A H0 H locs s) (ho : kd o = 8) (hlink : (Cond.fieldLink own index "SlewRailsModel" "images" "[I").before args s = true) (hd : decode cc pc = .ok (.getfield index, 3)) (k : W p l e R s m args below meth c H locs cells slots Q (F0 m (pc + 3) ls (.ref (ad (o + 10)) :: rest))) : W p l e R s m args below meth c H locs cells slots Q (F0 m pc ls (.ref (ad o) :: rest)) := by
  obtain ⟨q0, hq, -⟩ := zW_get (Y := Y) (ad := ad) (kd := kd) (M := M) (J := J) ((hw.2.2.2.2.2.2.1 o).1 (by omega))
  rw [z_is_8 ho] at hq
  exact va_get (ci := 8) (C := RX8) (T := TX8) (N := 26) hx hb hts (fun _ h => h) hown hw.2.1 hw.1 q0 hq rfl 18 (by decide) hlink (fun _ h => h) rfl hd k
theorem zg8_kept (hx : p.tables.exec = Jvm.exec) (hb : c.code = cc) (hts : ∀ w ∈ wsX80, w.before args s = true) (hown : s.vm.findClass own = some m.cls) (hw : zH D Y ad kd RL M J A H0 H locs s) (ho : kd o = 8) (hlink : (Cond.fieldLink own index "SlewRailsModel" "kept" "[Z").before args s = true) (hd : decode cc pc = .ok (.getfield index, 3)) (k : W p l e R s m args below meth c H locs cells slots Q (F0 m (pc + 3) ls (.ref (ad (o + 11)) :: rest))) : W p l e R s m args below meth c H locs cells slots Q (F0 m pc ls (.ref (ad o) :: rest)) := by
  obtain ⟨q0, hq, -⟩ := zW_get (Y := Y) (ad := ad) (kd := kd) (M := M) (J := J) ((hw.2.2.2.2.2.2.1 o).1 (by omega))
  rw [z_is_8 ho] at hq
  exact va_get (ci := 8) (C := RX8) (T := TX8) (N := 26) hx hb hts (fun _ h => h) hown hw.2.1 hw.1 q0 hq rfl 19 (by decide) hlink (fun _ h => h) rfl hd k
theorem zg8_least (hx : p.tables.exec = Jvm.exec) (hb : c.code = cc) (hts : ∀ w ∈ wsX80, w.before args s = true) (hown : s.vm.findClass own = some m.cls) (hw : zH D Y ad kd RL M J A H0 H locs s) (ho : kd o = 8) (hlink : (Cond.fieldLink own index "SlewRailsModel" "least" "[I").before args s = true) (hd : decode cc pc = .ok (.getfield index, 3)) (k : W p l e R s m args below meth c H locs cells slots Q (F0 m (pc + 3) ls (.ref (ad (o + 12)) :: rest))) : W p l e R s m args below meth c H locs cells slots Q (F0 m pc ls (.ref (ad o) :: rest)) := by
  obtain ⟨q0, hq, -⟩ := zW_get (Y := Y) (ad := ad) (kd := kd) (M := M) (J := J) ((hw.2.2.2.2.2.2.1 o).1 (by omega))
  rw [z_is_8 ho] at hq
  exact va_get (ci := 8) (C := RX8) (T := TX8) (N := 26) hx hb hts (fun _ h => h) hown hw.2.1 hw.1 q0 hq rfl 20 (by decide) hlink (fun _ h => h) rfl hd k
theorem zg8_bestSlews (hx : p.tables.exec = Jvm.exec) (hb : c.code = cc) (hts : ∀ w ∈ wsX80, w.before args s = true) (hown : s.vm.findClass own = some m.cls) (hw : zH D Y ad kd RL M J A H0 H locs s) (ho : kd o = 8) (hlink : (Cond.fieldLink own index "SlewRailsModel" "bestSlews" "[I").before args s = true) (hd : decode cc pc = .ok (.getfield index, 3)) (k : W p l e R s m args below meth c H locs cells slots Q (F0 m (pc + 3) ls (.ref (ad (o + 13)) :: rest))) : W p l e R s m args below meth c H locs cells slots Q (F0 m pc ls (.ref (ad o) :: rest)) := by
  obtain ⟨q0, hq, -⟩ := zW_get (Y := Y) (ad := ad) (kd := kd) (M := M) (J := J) ((hw.2.2.2.2.2.2.1 o).1 (by omega))
  rw [z_is_8 ho] at hq
  exact va_get (ci := 8) (C := RX8) (T := TX8) (N := 26) hx hb hts (fun _ h => h) hown hw.2.1 hw.1 q0 hq rfl 21 (by decide) hlink (fun _ h => h) rfl hd k
theorem zg8_bestWorst (hx : p.tables.exec = Jvm.exec) (hb : c.code = cc) (hts : ∀ w ∈ wsX80, w.before args s = true) (hown : s.vm.findClass own = some m.cls) (hw : zH D Y ad kd RL M J A H0 H locs s) (ho : kd o = 8) (hlink : (Cond.fieldLink own index "SlewRailsModel" "bestWorst" "I").before args s = true) (hd : decode cc pc = .ok (.getfield index, 3)) (k : W p l e R s m args below meth c H locs cells slots Q (F0 m (pc + 3) ls (.int (M o 9) :: rest))) : W p l e R s m args below meth c H locs cells slots Q (F0 m pc ls (.ref (ad o) :: rest)) := by
  obtain ⟨q0, hq, -⟩ := zW_get (Y := Y) (ad := ad) (kd := kd) (M := M) (J := J) ((hw.2.2.2.2.2.2.1 o).1 (by omega))
  rw [z_is_8 ho] at hq
  exact va_get (ci := 8) (C := RX8) (T := TX8) (N := 26) hx hb hts (fun _ h => h) hown hw.2.1 hw.1 q0 hq rfl 22 (by decide) hlink (fun _ h => h) rfl hd k
theorem zp8_bestWorst {v : Int32} (hx : p.tables.exec = Jvm.exec) (hb : c.code = cc) (hts : ∀ w ∈ wsX80, w.before args s = true) (hown : s.vm.findClass own = some m.cls) (hw : zH D Y ad kd RL M J A H0 H locs s) (ho : kd o = 8) (hlink : (Cond.fieldLink own index "SlewRailsModel" "bestWorst" "I").before args s = true) (hd : decode cc pc = .ok (.putfield index, 3)) (k : ∀ (H1 : Heap) (locs1 : List Loc), zH D Y ad kd RL (va_up M o (upd (M o) 9 v)) J A H0 H1 locs1 s → W p l e R s m args below meth c H1 locs1 cells slots Q (F0 m (pc + 3) ls rest)) : W p l e R s m args below meth c H locs cells slots Q (F0 m pc ls (.int v :: .ref (ad o) :: rest)) := by
  obtain ⟨q0, hq, hk⟩ := zW_get (Y := Y) (ad := ad) (kd := kd) (M := M) (J := J) ((hw.2.2.2.2.2.2.1 o).1 (by omega))
  rw [z_is_8 ho] at hq
  refine va_put (ci := 8) (C := RX8) (T := TX8) (N := 26) (ty := .int) (v := .int v) hx hb hts (fun _ h => h) tyX8 tyX8_ok nmX8 hown hw.2.1 hw.1 hw.2.2.1 hw.2.2.2.1 q0 hq rfl 22 (by decide) hlink (fun _ h => h) rfl (by decide +kernel) (vp_nar_int v) rfl (by simp) hd (fun H1 locs1 hP hD hS => ?_)
  refine k H1 locs1 (hw.next ?_ hS (hw.2.2.2.2.2.2.2.1.upM (by omega)))
  rw [← zW_set (M' := (va_up M o (upd (M o) 9 v))) (J' := J) hw.2.2.1 hk (z_is_8 ho) (fun x hx => zc_other (va_up_ne _ _ hx) (rfl))]
  have e : .inr (8, [.ref (ad (o + 1)), .ref (ad (o + 2)), .ref (ad (o + 3)), .ref (ad (o + 4)), .int ((va_up M o (upd (M o) 9 v)) o 0), .ref (ad (o + 5)), .int ((va_up M o (upd (M o) 9 v)) o 1), .int ((va_up M o (upd (M o) 9 v)) o 2), .int ((va_up M o (upd (M o) 9 v)) o 3), .int ((va_up M o (upd (M o) 9 v)) o 4), .int ((va_up M o (upd (M o) 9 v)) o 5), .int ((va_up M o (upd (M o) 9 v)) o 6), .int ((va_up M o (upd (M o) 9 v)) o 7), .ref (ad (o + 6)), .ref (ad (o + 7)), .ref (ad (o + 8)), .ref (ad (o + 9)), .int ((va_up M o (upd (M o) 9 v)) o 8), .ref (ad (o + 10)), .ref (ad (o + 11)), .ref (ad (o + 12)), .ref (ad (o + 13)), .int ((va_up M o (upd (M o) 9 v)) o 9), .int ((va_up M o (upd (M o) 9 v)) o 10), .ref (ad (o + 14)), .int ((va_up M o (upd (M o) 9 v)) o 11)]) = (.inr (8, List.set [.ref (ad (o + 1)), .ref (ad (o + 2)), .ref (ad (o + 3)), .ref (ad (o + 4)), .int (M o 0), .ref (ad (o + 5)), .int (M o 1), .int (M o 2), .int (M o 3), .int (M o 4), .int (M o 5), .int (M o 6), .int (M o 7), .ref (ad (o + 6)), .ref (ad (o + 7)), .ref (ad (o + 8)), .ref (ad (o + 9)), .int (M o 8), .ref (ad (o + 10)), .ref (ad (o + 11)), .ref (ad (o + 12)), .ref (ad (o + 13)), .int (M o 9), .int (M o 10), .ref (ad (o + 14)), .int (M o 11)] 22 (.int v)) : va_E) := by simp [va_up_self, List.set, upd, vp_updL]
  rw [e]; exact hP
theorem zg8_bestCost (hx : p.tables.exec = Jvm.exec) (hb : c.code = cc) (hts : ∀ w ∈ wsX80, w.before args s = true) (hown : s.vm.findClass own = some m.cls) (hw : zH D Y ad kd RL M J A H0 H locs s) (ho : kd o = 8) (hlink : (Cond.fieldLink own index "SlewRailsModel" "bestCost" "I").before args s = true) (hd : decode cc pc = .ok (.getfield index, 3)) (k : W p l e R s m args below meth c H locs cells slots Q (F0 m (pc + 3) ls (.int (M o 10) :: rest))) : W p l e R s m args below meth c H locs cells slots Q (F0 m pc ls (.ref (ad o) :: rest)) := by
  obtain ⟨q0, hq, -⟩ := zW_get (Y := Y) (ad := ad) (kd := kd) (M := M) (J := J) ((hw.2.2.2.2.2.2.1 o).1 (by omega))
  rw [z_is_8 ho] at hq
  exact va_get (ci := 8) (C := RX8) (T := TX8) (N := 26) hx hb hts (fun _ h => h) hown hw.2.1 hw.1 q0 hq rfl 23 (by decide) hlink (fun _ h => h) rfl hd k
theorem zp8_bestCost {v : Int32} (hx : p.tables.exec = Jvm.exec) (hb : c.code = cc) (hts : ∀ w ∈ wsX80, w.before args s = true) (hown : s.vm.findClass own = some m.cls) (hw : zH D Y ad kd RL M J A H0 H locs s) (ho : kd o = 8) (hlink : (Cond.fieldLink own index "SlewRailsModel" "bestCost" "I").before args s = true) (hd : decode cc pc = .ok (.putfield index, 3)) (k : ∀ (H1 : Heap) (locs1 : List Loc), zH D Y ad kd RL (va_up M o (upd (M o) 10 v)) J A H0 H1 locs1 s → W p l e R s m args below meth c H1 locs1 cells slots Q (F0 m (pc + 3) ls rest)) : W p l e R s m args below meth c H locs cells slots Q (F0 m pc ls (.int v :: .ref (ad o) :: rest)) := by
  obtain ⟨q0, hq, hk⟩ := zW_get (Y := Y) (ad := ad) (kd := kd) (M := M) (J := J) ((hw.2.2.2.2.2.2.1 o).1 (by omega))
  rw [z_is_8 ho] at hq
  refine va_put (ci := 8) (C := RX8) (T := TX8) (N := 26) (ty := .int) (v := .int v) hx hb hts (fun _ h => h) tyX8 tyX8_ok nmX8 hown hw.2.1 hw.1 hw.2.2.1 hw.2.2.2.1 q0 hq rfl 23 (by decide) hlink (fun _ h => h) rfl (by decide +kernel) (vp_nar_int v) rfl (by simp) hd (fun H1 locs1 hP hD hS => ?_)
  refine k H1 locs1 (hw.next ?_ hS (hw.2.2.2.2.2.2.2.1.upM (by omega)))
  rw [← zW_set (M' := (va_up M o (upd (M o) 10 v))) (J' := J) hw.2.2.1 hk (z_is_8 ho) (fun x hx => zc_other (va_up_ne _ _ hx) (rfl))]
  have e : .inr (8, [.ref (ad (o + 1)), .ref (ad (o + 2)), .ref (ad (o + 3)), .ref (ad (o + 4)), .int ((va_up M o (upd (M o) 10 v)) o 0), .ref (ad (o + 5)), .int ((va_up M o (upd (M o) 10 v)) o 1), .int ((va_up M o (upd (M o) 10 v)) o 2), .int ((va_up M o (upd (M o) 10 v)) o 3), .int ((va_up M o (upd (M o) 10 v)) o 4), .int ((va_up M o (upd (M o) 10 v)) o 5), .int ((va_up M o (upd (M o) 10 v)) o 6), .int ((va_up M o (upd (M o) 10 v)) o 7), .ref (ad (o + 6)), .ref (ad (o + 7)), .ref (ad (o + 8)), .ref (ad (o + 9)), .int ((va_up M o (upd (M o) 10 v)) o 8), .ref (ad (o + 10)), .ref (ad (o + 11)), .ref (ad (o + 12)), .ref (ad (o + 13)), .int ((va_up M o (upd (M o) 10 v)) o 9), .int ((va_up M o (upd (M o) 10 v)) o 10), .ref (ad (o + 14)), .int ((va_up M o (upd (M o) 10 v)) o 11)]) = (.inr (8, List.set [.ref (ad (o + 1)), .ref (ad (o + 2)), .ref (ad (o + 3)), .ref (ad (o + 4)), .int (M o 0), .ref (ad (o + 5)), .int (M o 1), .int (M o 2), .int (M o 3), .int (M o 4), .int (M o 5), .int (M o 6), .int (M o 7), .ref (ad (o + 6)), .ref (ad (o + 7)), .ref (ad (o + 8)), .ref (ad (o + 9)), .int (M o 8), .ref (ad (o + 10)), .ref (ad (o + 11)), .ref (ad (o + 12)), .ref (ad (o + 13)), .int (M o 9), .int (M o 10), .ref (ad (o + 14)), .int (M o 11)] 23 (.int v)) : va_E) := by simp [va_up_self, List.set, upd, vp_updL]
  rw [e]; exact hP
theorem zg8_trace (hx : p.tables.exec = Jvm.exec) (hb : c.code = cc) (hts : ∀ w ∈ wsX80, w.before args s = true) (hown : s.vm.findClass own = some m.cls) (hw : zH D Y ad kd RL M J A H0 H locs s) (ho : kd o = 8) (hlink : (Cond.fieldLink own index "SlewRailsModel" "trace" "[I").before args s = true) (hd : decode cc pc = .ok (.getfield index, 3)) (k : W p l e R s m args below meth c H locs cells slots Q (F0 m (pc + 3) ls (.ref (ad (o + 14)) :: rest))) : W p l e R s m args below meth c H locs cells slots Q (F0 m pc ls (.ref (ad o) :: rest)) := by
  obtain ⟨q0, hq, -⟩ := zW_get (Y := Y) (ad := ad) (kd := kd) (M := M) (J := J) ((hw.2.2.2.2.2.2.1 o).1 (by omega))
  rw [z_is_8 ho] at hq
  exact va_get (ci := 8) (C := RX8) (T := TX8) (N := 26) hx hb hts (fun _ h => h) hown hw.2.1 hw.1 q0 hq rfl 24 (by decide) hlink (fun _ h => h) rfl hd k
theorem zg8_traced (hx : p.tables.exec = Jvm.exec) (hb : c.code = cc) (hts : ∀ w ∈ wsX80, w.before args s = true) (hown : s.vm.findClass own = some m.cls) (hw : zH D Y ad kd RL M J A H0 H locs s) (ho : kd o = 8) (hlink : (Cond.fieldLink own index "SlewRailsModel" "traced" "I").before args s = true) (hd : decode cc pc = .ok (.getfield index, 3)) (k : W p l e R s m args below meth c H locs cells slots Q (F0 m (pc + 3) ls (.int (M o 11) :: rest))) : W p l e R s m args below meth c H locs cells slots Q (F0 m pc ls (.ref (ad o) :: rest)) := by
  obtain ⟨q0, hq, -⟩ := zW_get (Y := Y) (ad := ad) (kd := kd) (M := M) (J := J) ((hw.2.2.2.2.2.2.1 o).1 (by omega))
  rw [z_is_8 ho] at hq
  exact va_get (ci := 8) (C := RX8) (T := TX8) (N := 26) hx hb hts (fun _ h => h) hown hw.2.1 hw.1 q0 hq rfl 25 (by decide) hlink (fun _ h => h) rfl hd k
theorem zp8_traced {v : Int32} (hx : p.tables.exec = Jvm.exec) (hb : c.code = cc) (hts : ∀ w ∈ wsX80, w.before args s = true) (hown : s.vm.findClass own = some m.cls) (hw : zH D Y ad kd RL M J A H0 H locs s) (ho : kd o = 8) (hlink : (Cond.fieldLink own index "SlewRailsModel" "traced" "I").before args s = true) (hd : decode cc pc = .ok (.putfield index, 3)) (k : ∀ (H1 : Heap) (locs1 : List Loc), zH D Y ad kd RL (va_up M o (upd (M o) 11 v)) J A H0 H1 locs1 s → W p l e R s m args below meth c H1 locs1 cells slots Q (F0 m (pc + 3) ls rest)) : W p l e R s m args below meth c H locs cells slots Q (F0 m pc ls (.int v :: .ref (ad o) :: rest)) := by
  obtain ⟨q0, hq, hk⟩ := zW_get (Y := Y) (ad := ad) (kd := kd) (M := M) (J := J) ((hw.2.2.2.2.2.2.1 o).1 (by omega))
  rw [z_is_8 ho] at hq
  refine va_put (ci := 8) (C := RX8) (T := TX8) (N := 26) (ty := .int) (v := .int v) hx hb hts (fun _ h => h) tyX8 tyX8_ok nmX8 hown hw.2.1 hw.1 hw.2.2.1 hw.2.2.2.1 q0 hq rfl 25 (by decide) hlink (fun _ h => h) rfl (by decide +kernel) (vp_nar_int v) rfl (by simp) hd (fun H1 locs1 hP hD hS => ?_)
  refine k H1 locs1 (hw.next ?_ hS (hw.2.2.2.2.2.2.2.1.upM (by omega)))
  rw [← zW_set (M' := (va_up M o (upd (M o) 11 v))) (J' := J) hw.2.2.1 hk (z_is_8 ho) (fun x hx => zc_other (va_up_ne _ _ hx) (rfl))]
  have e : .inr (8, [.ref (ad (o + 1)), .ref (ad (o + 2)), .ref (ad (o + 3)), .ref (ad (o + 4)), .int ((va_up M o (upd (M o) 11 v)) o 0), .ref (ad (o + 5)), .int ((va_up M o (upd (M o) 11 v)) o 1), .int ((va_up M o (upd (M o) 11 v)) o 2), .int ((va_up M o (upd (M o) 11 v)) o 3), .int ((va_up M o (upd (M o) 11 v)) o 4), .int ((va_up M o (upd (M o) 11 v)) o 5), .int ((va_up M o (upd (M o) 11 v)) o 6), .int ((va_up M o (upd (M o) 11 v)) o 7), .ref (ad (o + 6)), .ref (ad (o + 7)), .ref (ad (o + 8)), .ref (ad (o + 9)), .int ((va_up M o (upd (M o) 11 v)) o 8), .ref (ad (o + 10)), .ref (ad (o + 11)), .ref (ad (o + 12)), .ref (ad (o + 13)), .int ((va_up M o (upd (M o) 11 v)) o 9), .int ((va_up M o (upd (M o) 11 v)) o 10), .ref (ad (o + 14)), .int ((va_up M o (upd (M o) 11 v)) o 11)]) = (.inr (8, List.set [.ref (ad (o + 1)), .ref (ad (o + 2)), .ref (ad (o + 3)), .ref (ad (o + 4)), .int (M o 0), .ref (ad (o + 5)), .int (M o 1), .int (M o 2), .int (M o 3), .int (M o 4), .int (M o 5), .int (M o 6), .int (M o 7), .ref (ad (o + 6)), .ref (ad (o + 7)), .ref (ad (o + 8)), .ref (ad (o + 9)), .int (M o 8), .ref (ad (o + 10)), .ref (ad (o + 11)), .ref (ad (o + 12)), .ref (ad (o + 13)), .int (M o 9), .int (M o 10), .ref (ad (o + 14)), .int (M o 11)] 25 (.int v)) : va_E) := by simp [va_up_self, List.set, upd, vp_updL]
  rw [e]; exact hP
theorem z_ald14m {i : Int32} (hx : p.tables.exec = Jvm.exec) (hb : c.code = cc) (hw : zH D Y ad kd RL M J A H0 H locs s) (ho : kd o = 14) (hin : vp_in i 24) (hk : kd (o + 1 + 5 * i.toNatClampNeg) = 2) (hd : decode cc pc = .ok (.aaload, 1)) (k : W p l e R s m args below meth c H locs cells slots Q (F0 m (pc + 1) ls (.ref (ad (o + 1 + 5 * i.toNatClampNeg)) :: rest))) : W p l e R s m args below meth c H locs cells slots Q (F0 m pc ls (.int i :: .ref (ad o) :: rest)) := by
  refine z_ald14 hx hb hw ho hin hd ?_
  rw [if_pos ⟨z_lt hin, hk⟩]
  exact k
theorem z_slot (hw : zH D Y ad kd RL M J A H0 H locs s) (ho : kd o = 14) {i : Int32} (hin : vp_in i 24) (hm : ¬ M (o + 1 + 5 * i.toNatClampNeg) 0 = 0) : kd (o + 1 + 5 * i.toNatClampNeg) = 2 := by
  rcases zk_14 hw.2.2.2.2.2.1 ho (z_lt hin) with h | h
  · refine absurd ?_ hm
    rw [(hw.2.2.2.2.2.2.2.1 _ h.1).1]
    simp [zI]
  · exact h
theorem zg7_search_m (hx : p.tables.exec = Jvm.exec) (hb : c.code = cc) (hts : ∀ w ∈ wsX70, w.before args s = true) (hown : s.vm.findClass own = some m.cls) (hw : zH D Y ad kd RL M J A H0 H locs s) (ho : kd o = 7) (hk : kd (o + 168) = 4) (hlink : (Cond.fieldLink own index "SlewRails" "search" "LSlewRails$Search;").before args s = true) (hd : decode cc pc = .ok (.getfield index, 3)) (k : W p l e R s m args below meth c H locs cells slots Q (F0 m (pc + 3) ls (.ref (ad (o + 168)) :: rest))) : W p l e R s m args below meth c H locs cells slots Q (F0 m pc ls (.ref (ad o) :: rest)) := by
  refine zg7_search hx hb hts hown hw ho hlink hd ?_
  rw [if_pos hk]
  exact k
theorem z_copy {o1 n0 n1 : Nat} {sp dp n : Int32} (hx : p.tables.exec = Jvm.exec) (hb : c.code = cc) (hml : c.maxLocals = ls.size) (hown : s.vm.findClass own = some m.cls) (hlink : (Cond.methodLink own index arraycopyName).before args s = true) (hnat : (Cond.native arraycopyName).before args s = true) (hstat : (Cond.static arraycopyName).before args s = true) (hini : (Cond.initialized "java/lang/System").before args s = true) (hw : zH D Y ad kd RL M J A H0 H locs s) (ho : kd o = 1000 + n0) (ho1 : kd o1 = 1000 + n1) (hi : ¬ sp < 0 ∧ ¬ dp < 0 ∧ ¬ n < 0 ∧ sp.toNatClampNeg + n.toNatClampNeg ≤ n0 ∧ dp.toNatClampNeg + n.toNatClampNeg ≤ n1) (hframes : 1 ≤ R.frames) (hlocals : (rest.map fun v => v.category).sum + (nativeFrameWords "java/lang/System" "arraycopy" 5 + 11) ≤ R.locals) (hd : decode cc pc = .ok (.invokestatic index, 3)) (k : ∀ (H1 : Heap) (locs1 : List Loc), zH D Y ad kd RL (va_up M o1 (va_cpy (M o) (M o1) sp.toNatClampNeg dp.toNatClampNeg n.toNatClampNeg)) J A H0 H1 locs1 s → W p l e R s m args below meth c H1 locs1 cells slots Q (F0 m (pc + 3) ls rest)) : W p l e R s m args below meth c H locs cells slots Q (F0 m pc ls (.int n :: .int dp :: .ref (ad o1) :: .int sp :: .ref (ad o) :: rest)) := by
  obtain ⟨q0, hq, -⟩ := zW_get (Y := Y) (ad := ad) (kd := kd) (M := M) (J := J) ((hw.2.2.2.2.2.2.1 o).1 (by omega))
  obtain ⟨q1, hq1, hk⟩ := zW_get (Y := Y) (ad := ad) (kd := kd) (M := M) (J := J) ((hw.2.2.2.2.2.2.1 o1).1 (by omega))
  rw [z_arr ho] at hq
  rw [z_arr ho1] at hq1
  have hset := zW_set (M' := va_up M o1 (va_cpy (M o) (M o1) sp.toNatClampNeg dp.toNatClampNeg n.toNatClampNeg)) (J' := J) hw.2.2.1 hk (e := .inl (Y.1, n1, .inl (va_cpy (M o) (M o1) sp.toNatClampNeg dp.toNatClampNeg n.toNatClampNeg))) (by rw [z_arr ho1, va_up_self]) (fun x hx => zc_other (va_up_ne _ _ hx) rfl)
  refine va_copyi hx hb hml hown hlink hnat hstat hini hw.2.1 hw.1 hw.2.2.1 hw.2.2.2.1 q0 q1 0 0 hq hq1 (ty := .int) rfl rfl rfl hi.1 hi.2.1 hi.2.2.1 hi.2.2.2.1 hi.2.2.2.2 (fun i _ => rfl) hframes hlocals hd (fun H1 locs1 hP hD hS => ?_)
  rw [hset] at hP
  exact k H1 locs1 (hw.next hP hS (hw.2.2.2.2.2.2.2.1.upM (by omega)))
end ZR
