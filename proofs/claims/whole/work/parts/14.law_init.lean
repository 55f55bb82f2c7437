def kL : List Nat := [7, 13, 3, 1040, 3, 1040, 3, 1040, 3, 1040, 3, 1040, 3, 1040, 3, 1040, 3, 1040, 6, 1120, 2, 1012, 1012, 1012, 1012, 2, 1012, 1012, 1012, 1012, 12, 2, 1012, 1012, 1012, 1012, 2, 1012, 1012, 1012, 1012, 1, 14, 99, 99, 99, 99, 99, 99, 99, 99, 99, 99, 99, 99, 99, 99, 99, 99, 99, 99, 99, 99, 99, 99, 99, 99, 99, 99, 99, 99, 99, 99, 99, 99, 99, 99, 99, 99, 99, 99, 99, 99, 99, 99, 99, 99, 99, 99, 99, 99, 99, 99, 99, 99, 99, 99, 99, 99, 99, 99, 99, 99, 99, 99, 99, 99, 99, 99, 99, 99, 99, 99, 99, 99, 99, 99, 99, 99, 99, 99, 99, 99, 99, 99, 99, 99, 99, 99, 99, 99, 99, 99, 99, 99, 99, 99, 99, 99, 99, 99, 99, 99, 99, 99, 99, 99, 99, 99, 99, 99, 99, 99, 99, 99, 99, 99, 99, 99, 99, 99, 99, 99, 0, 1016, 5, 10, 10, 99, 99, 99, 99, 99, 99, 99, 99, 99, 99, 99, 99, 99, 99, 99, 99, 99, 99, 99, 99, 99, 99, 99, 99, 99, 99, 99, 99, 99, 99, 99, 99, 8, 1008, 1008, 1320, 1040, 1120, 1050, 1050, 1050, 2200, 1100, 11, 5116, 1012, 1016]
def kd0 : Nat → Nat := fun o => kL.getD o 99
def lane0 : Nat → Int32 := (upd (upd (upd (upd (upd (upd (upd (upd (fun _ => 0) 0 (-1000000 : Int32)) 1 (-1000000 : Int32)) 2 (-1000000 : Int32)) 3 (-1000000 : Int32)) 4 (-1000000 : Int32)) 5 (-1000000 : Int32)) 6 (-1000000 : Int32)) 7 (-1000000 : Int32))
def M0 : zM := fun o => if 2 ≤ o ∧ o < 18 ∧ o % 2 = 0 then (fun k => if k = 0 then -1 else 0) else if o = 165 then (fun k => if k = 2 then 1 else 0) else if o = 168 then zI 168 else if o = 201 then lane0 else (fun _ => 0)
def J0 : zL := fun o => if o = 165 then (fun k => if k = 1 then 1 else 0) else (fun _ => 0)
def RL0 : List Nat := [0, 1, 18, 19, 20, 21, 22, 23, 24, 25, 26, 27, 28, 29, 30, 41, 42, 163, 164, 165, 166, 167, 2, 3, 4, 5, 6, 7, 8, 9, 10, 11, 12, 13, 14, 15, 16, 17, 31, 32, 33, 34, 35, 36, 37, 38, 39, 40, 200, 201, 202, 203, 204, 205, 206, 207, 208, 209, 210, 211, 212, 213, 214]
set_option maxRecDepth 20000 in
theorem kd0_out {o : Nat} (h : 215 ≤ o) : kd0 o = 99 := by
  unfold kd0
  have h2 : kL[o]? = none := List.getElem?_eq_none (Nat.le_trans (Nat.le_of_ble_eq_true rfl) h)
  rw [List.getD_eq_getElem?_getD, h2]
  rfl
theorem kd0_in {o c : Nat} (h : kd0 o = c) (hc : c ≠ 99) : o < 215 := by
  rcases Nat.lt_or_ge o 215 with q | q
  · exact q
  · exact absurd ((kd0_out q).symm.trans h) (fun e => hc e.symm)
theorem kd0_cl : zCl kd0 := by
  have k : ∀ (P : Nat → Prop) [DecidablePred P] (c : Nat), c ≠ 99 → ((List.range 215).all (fun o => decide (kd0 o = c → P o)) = true) → ∀ o, kd0 o = c → P o := by
    intro P _ c hc h o ho
    have := List.all_eq_true.mp h o (List.mem_range.mpr (kd0_in ho hc))
    exact of_decide_eq_true this ho
  refine ⟨k _ 0 (by decide) (by decide +kernel), k _ 1 (by decide) (by decide +kernel), k _ 2 (by decide) (by decide +kernel), k _ 3 (by decide) (by decide +kernel), k _ 4 (by decide) (by decide +kernel), k _ 5 (by decide) (by decide +kernel), k _ 6 (by decide) (by decide +kernel), k _ 7 (by decide) (by decide +kernel), k _ 8 (by decide) (by decide +kernel), k _ 12 (by decide) (by decide +kernel), k _ 13 (by decide) (by decide +kernel), ?_, ?_, k _ 7 (by decide) (by decide +kernel), k _ 14 (by decide) (by decide +kernel)⟩
  · exact fun o ho i hi => Or.inl (k (fun o => ∀ i, i < 24 → (kd0 (o + 1 + 5 * i) = 99 ∧ kd0 (o + 1 + 5 * i + 1) = 99 ∧ kd0 (o + 1 + 5 * i + 2) = 99 ∧ kd0 (o + 1 + 5 * i + 3) = 99 ∧ kd0 (o + 1 + 5 * i + 4) = 99)) 14 (by decide) (by decide +kernel) o ho i hi)
  · exact fun o ho => Or.inl (k (fun o => ∀ i, i < 8 → kd0 (o + 168 + i) = 99) 7 (by decide) (by decide +kernel) o ho)
theorem kd0_rl : ∀ o, kd0 o ≠ 99 ↔ o ∈ RL0 := by
  intro o
  rcases Nat.lt_or_ge o 215 with q | q
  · have h : (List.range 215).all (fun o => decide (kd0 o ≠ 99 ↔ o ∈ RL0)) = true := by decide +kernel
    exact of_decide_eq_true (List.all_eq_true.mp h o (List.mem_range.mpr q))
  · constructor
    · intro h; exact absurd (kd0_out q) h
    · intro h
      have h2 : RL0.all (fun o => decide (o < 215)) = true := by decide +kernel
      have := of_decide_eq_true (List.all_eq_true.mp h2 o h)
      omega
theorem kd0_zz : zZ kd0 M0 J0 := by
  intro o ho
  have hz : ∀ x, x ≠ 168 → zI x = fun _ => 0 := fun x hx => by funext k; simp [zI, hx]
  have n1 : ¬ (2 ≤ o ∧ o < 18 ∧ o % 2 = 0) := by
    rintro ⟨h1, h2, h3⟩
    have h : (List.range 18).all (fun o => decide (2 ≤ o ∧ o % 2 = 0 → kd0 o ≠ 99)) = true := by decide +kernel
    exact of_decide_eq_true (List.all_eq_true.mp h o (List.mem_range.mpr h2)) ⟨h1, h3⟩ ho
  have n2 : o ≠ 165 := fun e => by subst e; exact absurd ho (by decide +kernel)
  have n3 : o ≠ 201 := fun e => by subst e; exact absurd ho (by decide +kernel)
  refine ⟨?_, ?_⟩
  · unfold M0
    rw [if_neg n1, if_neg n2]
    by_cases e : o = 168
    · rw [if_pos e, e]
    · rw [if_neg e, if_neg n3, hz o e]
  · unfold J0
    rw [if_neg n2]
def ad0 (h7 q1 q2 q3 q4 q5 q6 q7 q8 q9 q10 q11 q12 q13 q14 q15 q16 q17 q18 q19 q20 q21 q22 q23 q24 q25 q26 q27 q28 q29 q30 q31 q32 q33 q34 q35 q36 q37 q38 q39 q40 q41 q42 q43 q44 q45 q46 q47 h8 p1 p2 p3 p4 p5 p6 p7 p8 p9 p10 p11 p12 p13 p14 : Nat) : Nat → Nat := fun x : Nat => if x = 0 then h7 else if x = 1 then q1 else if x = 18 then q2 else if x = 19 then q3 else if x = 20 then q4 else if x = 21 then q5 else if x = 22 then q6 else if x = 23 then q7 else if x = 24 then q8 else if x = 25 then q9 else if x = 26 then q10 else if x = 27 then q11 else if x = 28 then q12 else if x = 29 then q13 else if x = 30 then q14 else if x = 41 then q15 else if x = 42 then q16 else if x = 163 then q17 else if x = 164 then q18 else if x = 165 then q19 else if x = 166 then q20 else if x = 167 then q21 else if x = 2 then q22 else if x = 3 then q23 else if x = 4 then q24 else if x = 5 then q25 else if x = 6 then q26 else if x = 7 then q27 else if x = 8 then q28 else if x = 9 then q29 else if x = 10 then q30 else if x = 11 then q31 else if x = 12 then q32 else if x = 13 then q33 else if x = 14 then q34 else if x = 15 then q35 else if x = 16 then q36 else if x = 17 then q37 else if x = 31 then q38 else if x = 32 then q39 else if x = 33 then q40 else if x = 34 then q41 else if x = 35 then q42 else if x = 36 then q43 else if x = 37 then q44 else if x = 38 then q45 else if x = 39 then q46 else if x = 40 then q47 else if x = 200 then h8 else if x = 201 then p1 else if x = 202 then p2 else if x = 203 then p3 else if x = 204 then p4 else if x = 205 then p5 else if x = 206 then p6 else if x = 207 then p7 else if x = 208 then p8 else if x = 209 then p9 else if x = 210 then p10 else if x = 211 then p11 else if x = 212 then p12 else if x = 213 then p13 else if x = 214 then p14 else 0
def w7 (Y : zY) (h7 q1 q2 q3 q4 q5 q6 q7 q8 q9 q10 q11 q12 q13 q14 q15 q16 q17 q18 q19 q20 q21 q22 q23 q24 q25 q26 q27 q28 q29 q30 q31 q32 q33 q34 q35 q36 q37 q38 q39 q40 q41 q42 q43 q44 q45 q46 q47 : Nat) : va_W := [(h7, .inr (7, [.ref q1, .ref q2, .ref q4, .ref q9, .ref q14, .ref q15, .ref q17, .ref q19, .null, .int (0 : Int32)])), (q1, .inl (Y.2.2.2.2, 8, .inr (.inr (.inr (.inr (va_up (va_up (va_up (va_up (va_up (va_up (va_up (va_up (fun _ => none) 0 (some q22)) 1 (some q24)) 2 (some q26)) 3 (some q28)) 4 (some q30)) 5 (some q32)) 6 (some q34)) 7 (some q36))))))), (q2, .inr (6, [.ref q3, .int (0 : Int32), .int (0 : Int32), .int (0 : Int32)])), (q3, .inl (Y.1, 120, .inl (fun _ => 0))), (q4, .inr (2, [.int (0 : Int32), .int (0 : Int32), .ref q5, .ref q6, .ref q7, .ref q8])), (q5, .inl (Y.1, 12, .inl (fun _ => 0))), (q6, .inl (Y.1, 12, .inl (fun _ => 0))), (q7, .inl (Y.1, 12, .inl (fun _ => 0))), (q8, .inl (Y.1, 12, .inl (fun _ => 0))), (q9, .inr (2, [.int (0 : Int32), .int (0 : Int32), .ref q10, .ref q11, .ref q12, .ref q13])), (q10, .inl (Y.1, 12, .inl (fun _ => 0))), (q11, .inl (Y.1, 12, .inl (fun _ => 0))), (q12, .inl (Y.1, 12, .inl (fun _ => 0))), (q13, .inl (Y.1, 12, .inl (fun _ => 0))), (q14, .inl (Y.2.2.2.1, 2, .inr (.inr (.inr (.inr (va_up (va_up (fun _ => none) 0 (some q38)) 1 (some q43))))))), (q15, .inr (1, [.ref q16, .int (0 : Int32), .int (0 : Int32)])), (q16, .inl (Y.2.2.2.1, 24, .inr (.inr (.inr (.inr (fun _ => none)))))), (q17, .inr (0, [.ref q18, .int (0 : Int32)])), (q18, .inl (Y.1, 16, .inl (fun _ => 0))), (q19, .inr (5, [.long (0 : Int64), .long (1 : Int64), .ref q20, .ref q21, .int (0 : Int32)])), (q20, .inl (Y.2.1, 8, .inr (.inl (fun _ => 0)))), (q21, .inl (Y.2.1, 8, .inr (.inl (fun _ => 0)))), (q22, .inr (3, [.int (-1 : Int32), .int (0 : Int32), .ref q23])), (q23, .inl (Y.1, 40, .inl (fun _ => 0))), (q24, .inr (3, [.int (-1 : Int32), .int (0 : Int32), .ref q25])), (q25, .inl (Y.1, 40, .inl (fun _ => 0))), (q26, .inr (3, [.int (-1 : Int32), .int (0 : Int32), .ref q27])), (q27, .inl (Y.1, 40, .inl (fun _ => 0))), (q28, .inr (3, [.int (-1 : Int32), .int (0 : Int32), .ref q29])), (q29, .inl (Y.1, 40, .inl (fun _ => 0))), (q30, .inr (3, [.int (-1 : Int32), .int (0 : Int32), .ref q31])), (q31, .inl (Y.1, 40, .inl (fun _ => 0))), (q32, .inr (3, [.int (-1 : Int32), .int (0 : Int32), .ref q33])), (q33, .inl (Y.1, 40, .inl (fun _ => 0))), (q34, .inr (3, [.int (-1 : Int32), .int (0 : Int32), .ref q35])), (q35, .inl (Y.1, 40, .inl (fun _ => 0))), (q36, .inr (3, [.int (-1 : Int32), .int (0 : Int32), .ref q37])), (q37, .inl (Y.1, 40, .inl (fun _ => 0))), (q38, .inr (2, [.int (0 : Int32), .int (0 : Int32), .ref q39, .ref q40, .ref q41, .ref q42])), (q39, .inl (Y.1, 12, .inl (fun _ => 0))), (q40, .inl (Y.1, 12, .inl (fun _ => 0))), (q41, .inl (Y.1, 12, .inl (fun _ => 0))), (q42, .inl (Y.1, 12, .inl (fun _ => 0))), (q43, .inr (2, [.int (0 : Int32), .int (0 : Int32), .ref q44, .ref q45, .ref q46, .ref q47])), (q44, .inl (Y.1, 12, .inl (fun _ => 0))), (q45, .inl (Y.1, 12, .inl (fun _ => 0))), (q46, .inl (Y.1, 12, .inl (fun _ => 0))), (q47, .inl (Y.1, 12, .inl (fun _ => 0)))]
def w8 (Y : zY) (h8 p1 p2 p3 p4 p5 p6 p7 p8 p9 p10 p11 p12 p13 p14 : Nat) : va_W := [(h8, .inr (8, [.ref p1, .ref p2, .ref p3, .ref p4, .int 0, .ref p5, .int 0, .int 0, .int 0, .int 0, .int 0, .int 0, .int 0, .ref p6, .ref p7, .ref p8, .ref p9, .int 0, .ref p10, .ref p11, .ref p12, .ref p13, .int 0, .int 0, .ref p14, .int 0])), (p1, .inl (Y.1, 8, .inl (upd (upd (upd (upd (upd (upd (upd (upd (fun _ => 0) 0 (-1000000 : Int32)) 1 (-1000000 : Int32)) 2 (-1000000 : Int32)) 3 (-1000000 : Int32)) 4 (-1000000 : Int32)) 5 (-1000000 : Int32)) 6 (-1000000 : Int32)) 7 (-1000000 : Int32)))), (p2, .inl (Y.1, 8, .inl (fun _ => 0))), (p3, .inl (Y.1, 320, .inl (fun _ => 0))), (p4, .inl (Y.1, 40, .inl (fun _ => 0))), (p5, .inl (Y.1, 120, .inl (fun _ => 0))), (p6, .inl (Y.1, 50, .inl (fun _ => 0))), (p7, .inl (Y.1, 50, .inl (fun _ => 0))), (p8, .inl (Y.1, 50, .inl (fun _ => 0))), (p9, .inl (Y.1, 1200, .inl (fun _ => 0))), (p10, .inl (Y.1, 100, .inl (fun _ => 0))), (p11, .inl (Y.2.2.1, 2, .inl (fun _ => 0))), (p12, .inl (Y.1, 4116, .inl (fun _ => 0))), (p13, .inl (Y.1, 12, .inl (fun _ => 0))), (p14, .inl (Y.1, 16, .inl (fun _ => 0)))]
set_option maxHeartbeats 40000000 in
set_option maxRecDepth 100000 in
theorem w_zW (Y : zY) (h7 q1 q2 q3 q4 q5 q6 q7 q8 q9 q10 q11 q12 q13 q14 q15 q16 q17 q18 q19 q20 q21 q22 q23 q24 q25 q26 q27 q28 q29 q30 q31 q32 q33 q34 q35 q36 q37 q38 q39 q40 q41 q42 q43 q44 q45 q46 q47 h8 p1 p2 p3 p4 p5 p6 p7 p8 p9 p10 p11 p12 p13 p14 : Nat) : w7 Y h7 q1 q2 q3 q4 q5 q6 q7 q8 q9 q10 q11 q12 q13 q14 q15 q16 q17 q18 q19 q20 q21 q22 q23 q24 q25 q26 q27 q28 q29 q30 q31 q32 q33 q34 q35 q36 q37 q38 q39 q40 q41 q42 q43 q44 q45 q46 q47 ++ w8 Y h8 p1 p2 p3 p4 p5 p6 p7 p8 p9 p10 p11 p12 p13 p14 = zW Y (ad0 h7 q1 q2 q3 q4 q5 q6 q7 q8 q9 q10 q11 q12 q13 q14 q15 q16 q17 q18 q19 q20 q21 q22 q23 q24 q25 q26 q27 q28 q29 q30 q31 q32 q33 q34 q35 q36 q37 q38 q39 q40 q41 q42 q43 q44 q45 q46 q47 h8 p1 p2 p3 p4 p5 p6 p7 p8 p9 p10 p11 p12 p13 p14) kd0 RL0 M0 J0 := by
  obtain ⟨ad, ead⟩ : ∃ f, f = (ad0 h7 q1 q2 q3 q4 q5 q6 q7 q8 q9 q10 q11 q12 q13 q14 q15 q16 q17 q18 q19 q20 q21 q22 q23 q24 q25 q26 q27 q28 q29 q30 q31 q32 q33 q34 q35 q36 q37 q38 q39 q40 q41 q42 q43 q44 q45 q46 q47 h8 p1 p2 p3 p4 p5 p6 p7 p8 p9 p10 p11 p12 p13 p14) := ⟨_, rfl⟩
  rw [← ead]
  have a_0 : ad 0 = h7 := by rw [ead]; rfl
  have a_1 : ad 1 = q1 := by rw [ead]; rfl
  have a_18 : ad 18 = q2 := by rw [ead]; rfl
  have a_19 : ad 19 = q3 := by rw [ead]; rfl
  have a_20 : ad 20 = q4 := by rw [ead]; rfl
  have a_21 : ad 21 = q5 := by rw [ead]; rfl
  have a_22 : ad 22 = q6 := by rw [ead]; rfl
  have a_23 : ad 23 = q7 := by rw [ead]; rfl
  have a_24 : ad 24 = q8 := by rw [ead]; rfl
  have a_25 : ad 25 = q9 := by rw [ead]; rfl
  have a_26 : ad 26 = q10 := by rw [ead]; rfl
  have a_27 : ad 27 = q11 := by rw [ead]; rfl
  have a_28 : ad 28 = q12 := by rw [ead]; rfl
  have a_29 : ad 29 = q13 := by rw [ead]; rfl
  have a_30 : ad 30 = q14 := by rw [ead]; rfl
  have a_41 : ad 41 = q15 := by rw [ead]; rfl
  have a_42 : ad 42 = q16 := by rw [ead]; rfl
  have a_163 : ad 163 = q17 := by rw [ead]; rfl
  have a_164 : ad 164 = q18 := by rw [ead]; rfl
  have a_165 : ad 165 = q19 := by rw [ead]; rfl
  have a_166 : ad 166 = q20 := by rw [ead]; rfl
  have a_167 : ad 167 = q21 := by rw [ead]; rfl
  have a_2 : ad 2 = q22 := by rw [ead]; rfl
  have a_3 : ad 3 = q23 := by rw [ead]; rfl
  have a_4 : ad 4 = q24 := by rw [ead]; rfl
  have a_5 : ad 5 = q25 := by rw [ead]; rfl
  have a_6 : ad 6 = q26 := by rw [ead]; rfl
  have a_7 : ad 7 = q27 := by rw [ead]; rfl
  have a_8 : ad 8 = q28 := by rw [ead]; rfl
  have a_9 : ad 9 = q29 := by rw [ead]; rfl
  have a_10 : ad 10 = q30 := by rw [ead]; rfl
  have a_11 : ad 11 = q31 := by rw [ead]; rfl
  have a_12 : ad 12 = q32 := by rw [ead]; rfl
  have a_13 : ad 13 = q33 := by rw [ead]; rfl
  have a_14 : ad 14 = q34 := by rw [ead]; rfl
  have a_15 : ad 15 = q35 := by rw [ead]; rfl
  have a_16 : ad 16 = q36 := by rw [ead]; rfl
  have a_17 : ad 17 = q37 := by rw [ead]; rfl
  have a_31 : ad 31 = q38 := by rw [ead]; rfl
  have a_32 : ad 32 = q39 := by rw [ead]; rfl
  have a_33 : ad 33 = q40 := by rw [ead]; rfl
  have a_34 : ad 34 = q41 := by rw [ead]; rfl
  have a_35 : ad 35 = q42 := by rw [ead]; rfl
  have a_36 : ad 36 = q43 := by rw [ead]; rfl
  have a_37 : ad 37 = q44 := by rw [ead]; rfl
  have a_38 : ad 38 = q45 := by rw [ead]; rfl
  have a_39 : ad 39 = q46 := by rw [ead]; rfl
  have a_40 : ad 40 = q47 := by rw [ead]; rfl
  have a_200 : ad 200 = h8 := by rw [ead]; rfl
  have a_201 : ad 201 = p1 := by rw [ead]; rfl
  have a_202 : ad 202 = p2 := by rw [ead]; rfl
  have a_203 : ad 203 = p3 := by rw [ead]; rfl
  have a_204 : ad 204 = p4 := by rw [ead]; rfl
  have a_205 : ad 205 = p5 := by rw [ead]; rfl
  have a_206 : ad 206 = p6 := by rw [ead]; rfl
  have a_207 : ad 207 = p7 := by rw [ead]; rfl
  have a_208 : ad 208 = p8 := by rw [ead]; rfl
  have a_209 : ad 209 = p9 := by rw [ead]; rfl
  have a_210 : ad 210 = p10 := by rw [ead]; rfl
  have a_211 : ad 211 = p11 := by rw [ead]; rfl
  have a_212 : ad 212 = p12 := by rw [ead]; rfl
  have a_213 : ad 213 = p13 := by rw [ead]; rfl
  have a_214 : ad 214 = p14 := by rw [ead]; rfl
  have e_rows : (va_up (va_up (va_up (va_up (va_up (va_up (va_up (va_up (fun _ => none) 0 (some q22)) 1 (some q24)) 2 (some q26)) 3 (some q28)) 4 (some q30)) 5 (some q32)) 6 (some q34)) 7 (some q36)) = (fun i => if i < 8 then some (ad (1 + 1 + 2 * i)) else none) := by
    funext i
    match i with
    | 0 => rw [if_pos (by decide), show 1 + 1 + 2 * 0 = 2 from rfl, a_2]; rfl
    | 1 => rw [if_pos (by decide), show 1 + 1 + 2 * 1 = 4 from rfl, a_4]; rfl
    | 2 => rw [if_pos (by decide), show 1 + 1 + 2 * 2 = 6 from rfl, a_6]; rfl
    | 3 => rw [if_pos (by decide), show 1 + 1 + 2 * 3 = 8 from rfl, a_8]; rfl
    | 4 => rw [if_pos (by decide), show 1 + 1 + 2 * 4 = 10 from rfl, a_10]; rfl
    | 5 => rw [if_pos (by decide), show 1 + 1 + 2 * 5 = 12 from rfl, a_12]; rfl
    | 6 => rw [if_pos (by decide), show 1 + 1 + 2 * 6 = 14 from rfl, a_14]; rfl
    | 7 => rw [if_pos (by decide), show 1 + 1 + 2 * 7 = 16 from rfl, a_16]; rfl
    | n + 8 => rw [if_neg (by omega)]; simp [va_up]
  have e_img : (va_up (va_up (fun _ => none) 0 (some q38)) 1 (some q43)) = (fun i => if i < 2 then some (ad (30 + 1 + 5 * i)) else none) := by
    funext i
    match i with
    | 0 => rw [if_pos (by decide), show 30 + 1 + 5 * 0 = 31 from rfl, a_31]; rfl
    | 1 => rw [if_pos (by decide), show 30 + 1 + 5 * 1 = 36 from rfl, a_36]; rfl
    | n + 2 => rw [if_neg (by omega)]; simp [va_up]
  have e_bef : (fun _ => none) = (fun i => if i < 24 ∧ kd0 (42 + 1 + 5 * i) = 2 then some (ad (42 + 1 + 5 * i)) else none) := by
    funext i
    rw [if_neg]
    rintro ⟨h1, h2⟩
    have h : (List.range 24).all (fun i => decide (kd0 (42 + 1 + 5 * i) = 99)) = true := by decide +kernel
    rw [of_decide_eq_true (List.all_eq_true.mp h i (List.mem_range.mpr h1))] at h2
    cases h2
  have z_0 : zc ad kd0 Y M0 J0 0 = .inr (7, [.ref q1, .ref q2, .ref q4, .ref q9, .ref q14, .ref q15, .ref q17, .ref q19, .null, .int (0 : Int32)]) := by
    show zc ad kd0 Y M0 J0 0 = _
    rw [show zc ad kd0 Y M0 J0 0 = .inr (7, [.ref (ad 1), .ref (ad 18), .ref (ad 20), .ref (ad 25), .ref (ad 30), .ref (ad 41), .ref (ad 163), .ref (ad 165), .null, .int (0 : Int32)]) from rfl, a_1, a_18, a_20, a_25, a_30, a_41, a_163, a_165]
  have z_1 : zc ad kd0 Y M0 J0 1 = .inl (Y.2.2.2.2, 8, .inr (.inr (.inr (.inr (va_up (va_up (va_up (va_up (va_up (va_up (va_up (va_up (fun _ => none) 0 (some q22)) 1 (some q24)) 2 (some q26)) 3 (some q28)) 4 (some q30)) 5 (some q32)) 6 (some q34)) 7 (some q36)))))) := by rw [e_rows]; rfl
  have z_18 : zc ad kd0 Y M0 J0 18 = .inr (6, [.ref q3, .int (0 : Int32), .int (0 : Int32), .int (0 : Int32)]) := by
    show zc ad kd0 Y M0 J0 18 = _
    rw [show zc ad kd0 Y M0 J0 18 = .inr (6, [.ref (ad 19), .int (0 : Int32), .int (0 : Int32), .int (0 : Int32)]) from rfl, a_19]
  have z_19 : zc ad kd0 Y M0 J0 19 = .inl (Y.1, 120, .inl (fun _ => 0)) := rfl
  have z_20 : zc ad kd0 Y M0 J0 20 = .inr (2, [.int (0 : Int32), .int (0 : Int32), .ref q5, .ref q6, .ref q7, .ref q8]) := by
    show zc ad kd0 Y M0 J0 20 = _
    rw [show zc ad kd0 Y M0 J0 20 = .inr (2, [.int (0 : Int32), .int (0 : Int32), .ref (ad 21), .ref (ad 22), .ref (ad 23), .ref (ad 24)]) from rfl, a_21, a_22, a_23, a_24]
  have z_21 : zc ad kd0 Y M0 J0 21 = .inl (Y.1, 12, .inl (fun _ => 0)) := rfl
  have z_22 : zc ad kd0 Y M0 J0 22 = .inl (Y.1, 12, .inl (fun _ => 0)) := rfl
  have z_23 : zc ad kd0 Y M0 J0 23 = .inl (Y.1, 12, .inl (fun _ => 0)) := rfl
  have z_24 : zc ad kd0 Y M0 J0 24 = .inl (Y.1, 12, .inl (fun _ => 0)) := rfl
  have z_25 : zc ad kd0 Y M0 J0 25 = .inr (2, [.int (0 : Int32), .int (0 : Int32), .ref q10, .ref q11, .ref q12, .ref q13]) := by
    show zc ad kd0 Y M0 J0 25 = _
    rw [show zc ad kd0 Y M0 J0 25 = .inr (2, [.int (0 : Int32), .int (0 : Int32), .ref (ad 26), .ref (ad 27), .ref (ad 28), .ref (ad 29)]) from rfl, a_26, a_27, a_28, a_29]
  have z_26 : zc ad kd0 Y M0 J0 26 = .inl (Y.1, 12, .inl (fun _ => 0)) := rfl
  have z_27 : zc ad kd0 Y M0 J0 27 = .inl (Y.1, 12, .inl (fun _ => 0)) := rfl
  have z_28 : zc ad kd0 Y M0 J0 28 = .inl (Y.1, 12, .inl (fun _ => 0)) := rfl
  have z_29 : zc ad kd0 Y M0 J0 29 = .inl (Y.1, 12, .inl (fun _ => 0)) := rfl
  have z_30 : zc ad kd0 Y M0 J0 30 = .inl (Y.2.2.2.1, 2, .inr (.inr (.inr (.inr (va_up (va_up (fun _ => none) 0 (some q38)) 1 (some q43)))))) := by rw [e_img]; rfl
  have z_41 : zc ad kd0 Y M0 J0 41 = .inr (1, [.ref q16, .int (0 : Int32), .int (0 : Int32)]) := by
    show zc ad kd0 Y M0 J0 41 = _
    rw [show zc ad kd0 Y M0 J0 41 = .inr (1, [.ref (ad 42), .int (0 : Int32), .int (0 : Int32)]) from rfl, a_42]
  have z_42 : zc ad kd0 Y M0 J0 42 = .inl (Y.2.2.2.1, 24, .inr (.inr (.inr (.inr (fun _ => none))))) := by rw [e_bef]; rfl
  have z_163 : zc ad kd0 Y M0 J0 163 = .inr (0, [.ref q18, .int (0 : Int32)]) := by
    show zc ad kd0 Y M0 J0 163 = _
    rw [show zc ad kd0 Y M0 J0 163 = .inr (0, [.ref (ad 164), .int (0 : Int32)]) from rfl, a_164]
  have z_164 : zc ad kd0 Y M0 J0 164 = .inl (Y.1, 16, .inl (fun _ => 0)) := rfl
  have z_165 : zc ad kd0 Y M0 J0 165 = .inr (5, [.long (0 : Int64), .long (1 : Int64), .ref q20, .ref q21, .int (0 : Int32)]) := by
    show zc ad kd0 Y M0 J0 165 = _
    rw [show zc ad kd0 Y M0 J0 165 = .inr (5, [.long (0 : Int64), .long (1 : Int64), .ref (ad 166), .ref (ad 167), .int (0 : Int32)]) from rfl, a_166, a_167]
  have z_166 : zc ad kd0 Y M0 J0 166 = .inl (Y.2.1, 8, .inr (.inl (fun _ => 0))) := rfl
  have z_167 : zc ad kd0 Y M0 J0 167 = .inl (Y.2.1, 8, .inr (.inl (fun _ => 0))) := rfl
  have z_2 : zc ad kd0 Y M0 J0 2 = .inr (3, [.int (-1 : Int32), .int (0 : Int32), .ref q23]) := by
    show zc ad kd0 Y M0 J0 2 = _
    rw [show zc ad kd0 Y M0 J0 2 = .inr (3, [.int (-1 : Int32), .int (0 : Int32), .ref (ad 3)]) from rfl, a_3]
  have z_3 : zc ad kd0 Y M0 J0 3 = .inl (Y.1, 40, .inl (fun _ => 0)) := rfl
  have z_4 : zc ad kd0 Y M0 J0 4 = .inr (3, [.int (-1 : Int32), .int (0 : Int32), .ref q25]) := by
    show zc ad kd0 Y M0 J0 4 = _
    rw [show zc ad kd0 Y M0 J0 4 = .inr (3, [.int (-1 : Int32), .int (0 : Int32), .ref (ad 5)]) from rfl, a_5]
  have z_5 : zc ad kd0 Y M0 J0 5 = .inl (Y.1, 40, .inl (fun _ => 0)) := rfl
  have z_6 : zc ad kd0 Y M0 J0 6 = .inr (3, [.int (-1 : Int32), .int (0 : Int32), .ref q27]) := by
    show zc ad kd0 Y M0 J0 6 = _
    rw [show zc ad kd0 Y M0 J0 6 = .inr (3, [.int (-1 : Int32), .int (0 : Int32), .ref (ad 7)]) from rfl, a_7]
  have z_7 : zc ad kd0 Y M0 J0 7 = .inl (Y.1, 40, .inl (fun _ => 0)) := rfl
  have z_8 : zc ad kd0 Y M0 J0 8 = .inr (3, [.int (-1 : Int32), .int (0 : Int32), .ref q29]) := by
    show zc ad kd0 Y M0 J0 8 = _
    rw [show zc ad kd0 Y M0 J0 8 = .inr (3, [.int (-1 : Int32), .int (0 : Int32), .ref (ad 9)]) from rfl, a_9]
  have z_9 : zc ad kd0 Y M0 J0 9 = .inl (Y.1, 40, .inl (fun _ => 0)) := rfl
  have z_10 : zc ad kd0 Y M0 J0 10 = .inr (3, [.int (-1 : Int32), .int (0 : Int32), .ref q31]) := by
    show zc ad kd0 Y M0 J0 10 = _
    rw [show zc ad kd0 Y M0 J0 10 = .inr (3, [.int (-1 : Int32), .int (0 : Int32), .ref (ad 11)]) from rfl, a_11]
  have z_11 : zc ad kd0 Y M0 J0 11 = .inl (Y.1, 40, .inl (fun _ => 0)) := rfl
  have z_12 : zc ad kd0 Y M0 J0 12 = .inr (3, [.int (-1 : Int32), .int (0 : Int32), .ref q33]) := by
    show zc ad kd0 Y M0 J0 12 = _
    rw [show zc ad kd0 Y M0 J0 12 = .inr (3, [.int (-1 : Int32), .int (0 : Int32), .ref (ad 13)]) from rfl, a_13]
  have z_13 : zc ad kd0 Y M0 J0 13 = .inl (Y.1, 40, .inl (fun _ => 0)) := rfl
  have z_14 : zc ad kd0 Y M0 J0 14 = .inr (3, [.int (-1 : Int32), .int (0 : Int32), .ref q35]) := by
    show zc ad kd0 Y M0 J0 14 = _
    rw [show zc ad kd0 Y M0 J0 14 = .inr (3, [.int (-1 : Int32), .int (0 : Int32), .ref (ad 15)]) from rfl, a_15]
  have z_15 : zc ad kd0 Y M0 J0 15 = .inl (Y.1, 40, .inl (fun _ => 0)) := rfl
  have z_16 : zc ad kd0 Y M0 J0 16 = .inr (3, [.int (-1 : Int32), .int (0 : Int32), .ref q37]) := by
    show zc ad kd0 Y M0 J0 16 = _
    rw [show zc ad kd0 Y M0 J0 16 = .inr (3, [.int (-1 : Int32), .int (0 : Int32), .ref (ad 17)]) from rfl, a_17]
  have z_17 : zc ad kd0 Y M0 J0 17 = .inl (Y.1, 40, .inl (fun _ => 0)) := rfl
  have z_31 : zc ad kd0 Y M0 J0 31 = .inr (2, [.int (0 : Int32), .int (0 : Int32), .ref q39, .ref q40, .ref q41, .ref q42]) := by
    show zc ad kd0 Y M0 J0 31 = _
    rw [show zc ad kd0 Y M0 J0 31 = .inr (2, [.int (0 : Int32), .int (0 : Int32), .ref (ad 32), .ref (ad 33), .ref (ad 34), .ref (ad 35)]) from rfl, a_32, a_33, a_34, a_35]
  have z_32 : zc ad kd0 Y M0 J0 32 = .inl (Y.1, 12, .inl (fun _ => 0)) := rfl
  have z_33 : zc ad kd0 Y M0 J0 33 = .inl (Y.1, 12, .inl (fun _ => 0)) := rfl
  have z_34 : zc ad kd0 Y M0 J0 34 = .inl (Y.1, 12, .inl (fun _ => 0)) := rfl
  have z_35 : zc ad kd0 Y M0 J0 35 = .inl (Y.1, 12, .inl (fun _ => 0)) := rfl
  have z_36 : zc ad kd0 Y M0 J0 36 = .inr (2, [.int (0 : Int32), .int (0 : Int32), .ref q44, .ref q45, .ref q46, .ref q47]) := by
    show zc ad kd0 Y M0 J0 36 = _
    rw [show zc ad kd0 Y M0 J0 36 = .inr (2, [.int (0 : Int32), .int (0 : Int32), .ref (ad 37), .ref (ad 38), .ref (ad 39), .ref (ad 40)]) from rfl, a_37, a_38, a_39, a_40]
  have z_37 : zc ad kd0 Y M0 J0 37 = .inl (Y.1, 12, .inl (fun _ => 0)) := rfl
  have z_38 : zc ad kd0 Y M0 J0 38 = .inl (Y.1, 12, .inl (fun _ => 0)) := rfl
  have z_39 : zc ad kd0 Y M0 J0 39 = .inl (Y.1, 12, .inl (fun _ => 0)) := rfl
  have z_40 : zc ad kd0 Y M0 J0 40 = .inl (Y.1, 12, .inl (fun _ => 0)) := rfl
  have z_200 : zc ad kd0 Y M0 J0 200 = .inr (8, [.ref p1, .ref p2, .ref p3, .ref p4, .int 0, .ref p5, .int 0, .int 0, .int 0, .int 0, .int 0, .int 0, .int 0, .ref p6, .ref p7, .ref p8, .ref p9, .int 0, .ref p10, .ref p11, .ref p12, .ref p13, .int 0, .int 0, .ref p14, .int 0]) := by
    show zc ad kd0 Y M0 J0 200 = _
    rw [show zc ad kd0 Y M0 J0 200 = .inr (8, [.ref (ad 201), .ref (ad 202), .ref (ad 203), .ref (ad 204), .int 0, .ref (ad 205), .int 0, .int 0, .int 0, .int 0, .int 0, .int 0, .int 0, .ref (ad 206), .ref (ad 207), .ref (ad 208), .ref (ad 209), .int 0, .ref (ad 210), .ref (ad 211), .ref (ad 212), .ref (ad 213), .int 0, .int 0, .ref (ad 214), .int 0]) from rfl, a_201, a_202, a_203, a_204, a_205, a_206, a_207, a_208, a_209, a_210, a_211, a_212, a_213, a_214]
  have z_201 : zc ad kd0 Y M0 J0 201 = .inl (Y.1, 8, .inl (upd (upd (upd (upd (upd (upd (upd (upd (fun _ => 0) 0 (-1000000 : Int32)) 1 (-1000000 : Int32)) 2 (-1000000 : Int32)) 3 (-1000000 : Int32)) 4 (-1000000 : Int32)) 5 (-1000000 : Int32)) 6 (-1000000 : Int32)) 7 (-1000000 : Int32))) := rfl
  have z_202 : zc ad kd0 Y M0 J0 202 = .inl (Y.1, 8, .inl (fun _ => 0)) := rfl
  have z_203 : zc ad kd0 Y M0 J0 203 = .inl (Y.1, 320, .inl (fun _ => 0)) := rfl
  have z_204 : zc ad kd0 Y M0 J0 204 = .inl (Y.1, 40, .inl (fun _ => 0)) := rfl
  have z_205 : zc ad kd0 Y M0 J0 205 = .inl (Y.1, 120, .inl (fun _ => 0)) := rfl
  have z_206 : zc ad kd0 Y M0 J0 206 = .inl (Y.1, 50, .inl (fun _ => 0)) := rfl
  have z_207 : zc ad kd0 Y M0 J0 207 = .inl (Y.1, 50, .inl (fun _ => 0)) := rfl
  have z_208 : zc ad kd0 Y M0 J0 208 = .inl (Y.1, 50, .inl (fun _ => 0)) := rfl
  have z_209 : zc ad kd0 Y M0 J0 209 = .inl (Y.1, 1200, .inl (fun _ => 0)) := rfl
  have z_210 : zc ad kd0 Y M0 J0 210 = .inl (Y.1, 100, .inl (fun _ => 0)) := rfl
  have z_211 : zc ad kd0 Y M0 J0 211 = .inl (Y.2.2.1, 2, .inl (fun _ => 0)) := rfl
  have z_212 : zc ad kd0 Y M0 J0 212 = .inl (Y.1, 4116, .inl (fun _ => 0)) := rfl
  have z_213 : zc ad kd0 Y M0 J0 213 = .inl (Y.1, 12, .inl (fun _ => 0)) := rfl
  have z_214 : zc ad kd0 Y M0 J0 214 = .inl (Y.1, 16, .inl (fun _ => 0)) := rfl
  unfold w7 w8 zW RL0
  simp only [List.map, List.cons_append, List.nil_append]
  rw [z_0, z_1, z_18, z_19, z_20, z_21, z_22, z_23, z_24, z_25, z_26, z_27, z_28, z_29, z_30, z_41, z_42, z_163, z_164, z_165, z_166, z_167, z_2, z_3, z_4, z_5, z_6, z_7, z_8, z_9, z_10, z_11, z_12, z_13, z_14, z_15, z_16, z_17, z_31, z_32, z_33, z_34, z_35, z_36, z_37, z_38, z_39, z_40, z_200, z_201, z_202, z_203, z_204, z_205, z_206, z_207, z_208, z_209, z_210, z_211, z_212, z_213, z_214, a_0, a_1, a_18, a_19, a_20, a_21, a_22, a_23, a_24, a_25, a_26, a_27, a_28, a_29, a_30, a_41, a_42, a_163, a_164, a_165, a_166, a_167, a_2, a_3, a_4, a_5, a_6, a_7, a_8, a_9, a_10, a_11, a_12, a_13, a_14, a_15, a_16, a_17, a_31, a_32, a_33, a_34, a_35, a_36, a_37, a_38, a_39, a_40, a_200, a_201, a_202, a_203, a_204, a_205, a_206, a_207, a_208, a_209, a_210, a_211, a_212, a_213, a_214]
