theorem dX4_placeOf_0 : decode cX4_placeOf 0 = .ok (.iload_n 0, 1) := by decide +kernel
theorem dX4_placeOf_1 : decode cX4_placeOf 1 = .ok (.sipush 343, 3) := by decide +kernel
theorem dX4_placeOf_4 : decode cX4_placeOf 4 = .ok (.imul, 1) := by decide +kernel
theorem dX4_placeOf_5 : decode cX4_placeOf 5 = .ok (.iload_n 1, 1) := by decide +kernel
theorem dX4_placeOf_6 : decode cX4_placeOf 6 = .ok (.iconst 3, 1) := by decide +kernel
theorem dX4_placeOf_7 : decode cX4_placeOf 7 = .ok (.iadd, 1) := by decide +kernel
theorem dX4_placeOf_8 : decode cX4_placeOf 8 = .ok (.bipush 7, 2) := by decide +kernel
theorem dX4_placeOf_10 : decode cX4_placeOf 10 = .ok (.imul, 1) := by decide +kernel
theorem dX4_placeOf_11 : decode cX4_placeOf 11 = .ok (.iload_n 2, 1) := by decide +kernel
theorem dX4_placeOf_12 : decode cX4_placeOf 12 = .ok (.iadd, 1) := by decide +kernel
theorem dX4_placeOf_13 : decode cX4_placeOf 13 = .ok (.iconst 3, 1) := by decide +kernel
theorem dX4_placeOf_14 : decode cX4_placeOf 14 = .ok (.iadd, 1) := by decide +kernel
theorem dX4_placeOf_15 : decode cX4_placeOf 15 = .ok (.bipush 7, 2) := by decide +kernel
theorem dX4_placeOf_17 : decode cX4_placeOf 17 = .ok (.imul, 1) := by decide +kernel
theorem dX4_placeOf_18 : decode cX4_placeOf 18 = .ok (.iadd, 1) := by decide +kernel
theorem dX4_placeOf_19 : decode cX4_placeOf 19 = .ok (.iload_n 3, 1) := by decide +kernel
theorem dX4_placeOf_20 : decode cX4_placeOf 20 = .ok (.iadd, 1) := by decide +kernel
theorem dX4_placeOf_21 : decode cX4_placeOf 21 = .ok (.iconst 3, 1) := by decide +kernel
theorem dX4_placeOf_22 : decode cX4_placeOf 22 = .ok (.iadd, 1) := by decide +kernel
theorem dX4_placeOf_23 : decode cX4_placeOf 23 = .ok (.ireturn, 1) := by decide +kernel
def rmX4_placeOf : Room := { frames := 0, cells := 0, slots := 0, locals := 0 }
def wX4_placeOf (M : zM) (x0 : Int32) (x1 : Int32) (x2 : Int32) (x3 : Int32) (Q : Int32 → Prop) : Prop :=
    ∀ x6 : Int32, x6 = ((((x1 + (3 : Int32)) * (7 : Int32)) + x2) + (3 : Int32)) →
    ∀ x7 : Int32, x7 = (((x0 * (343 : Int32)) + (x6 * (7 : Int32))) + x3) →
    Q (x7 + (3 : Int32))
set_option maxHeartbeats 4000000 in
set_option maxRecDepth 100000 in
theorem kX4_placeOf {l : Launch} {D : va_G} {Y : zY} {ad kd : Nat → Nat} {RL : List Nat} {M : zM} {J : zL} {x0 : Int32} {x1 : Int32} {x2 : Int32} {x3 : Int32}  {Q : Int32 → Prop} (hq : wX4_placeOf M x0 x1 x2 x3 Q) : zCi l yX4_placeOf wsX4_placeOf rmX4_placeOf [.int x0, .int x1, .int x2, .int x3] D Y ad kd RL M J (fun r M' J' => Q r ∧ M = M' ∧ J = J') := by
  refine z_meti (cc := cX4_placeOf) (maxL := 4) (ret := (some .int)) (by decide) rfl (Nat.le_of_ble_eq_true rfl) ?_
  intro p e s m below meth c ls A ar QE hQE hx hb hr hml hown hts hlk hw hl
  have hown : s.vm.findClass RX4 = some m.cls := hown
  have hl : lv_has ls 4 [(0, .int x0), (1, .int x1), (2, .int x2), (3, .int x3)] := hl
  have hC := hw.2.2.2.2.2.1
  unfold wX4_placeOf at hq
  refine lv_iload_n hx hb dX4_placeOf_0 rfl (lv_at hl 0 rfl) ?_
  refine lv_sipush (v := (343 : Int32)) hx hb dX4_placeOf_1 (by decide) ?_
  refine lv_imul hx hb dX4_placeOf_4 ?_
  refine lv_iload_n hx hb dX4_placeOf_5 rfl (lv_at hl 1 rfl) ?_
  refine lv_iconst (v := (3 : Int32)) hx hb dX4_placeOf_6 (by decide) ?_
  refine lv_iadd hx hb dX4_placeOf_7 ?_
  refine lv_bipush (v := (7 : Int32)) hx hb dX4_placeOf_8 (by decide) ?_
  refine lv_imul hx hb dX4_placeOf_10 ?_
  refine lv_iload_n hx hb dX4_placeOf_11 rfl (lv_at hl 2 rfl) ?_
  refine lv_iadd hx hb dX4_placeOf_12 ?_
  refine lv_iconst (v := (3 : Int32)) hx hb dX4_placeOf_13 (by decide) ?_
  refine lv_iadd hx hb dX4_placeOf_14 ?_
  refine lv_topi (fun x6 e_x6 => ?_)
  have hq := hq x6 e_x6
  refine lv_bipush (v := (7 : Int32)) hx hb dX4_placeOf_15 (by decide) ?_
  refine lv_imul hx hb dX4_placeOf_17 ?_
  refine lv_iadd hx hb dX4_placeOf_18 ?_
  refine lv_iload_n hx hb dX4_placeOf_19 rfl (lv_at hl 3 rfl) ?_
  refine lv_iadd hx hb dX4_placeOf_20 ?_
  refine lv_topi (fun x7 e_x7 => ?_)
  have hq := hq x7 e_x7
  refine lv_iconst (v := (3 : Int32)) hx hb dX4_placeOf_21 (by decide) ?_
  refine lv_iadd hx hb dX4_placeOf_22 ?_
  exact z_iret hQE hx hb hr hlk hw dX4_placeOf_23 ⟨hq, rfl, rfl⟩
set_option maxRecDepth 20000 in
theorem ggX4_costOfFirst_X4_placeOf : GoodIn wsX4_costOfFirst wsX4_placeOf := goodIn_r _ [10] (by decide +kernel) (by decide +kernel)
set_option maxRecDepth 20000 in
theorem gX4_costOfFirst_X4_placeOf : GoodIn wsX4_costOfFirst (va_wsS RX4 68 yX4_placeOf wsX4_placeOf) := goodIn_app (goodIn_of _ (by decide +kernel)) ggX4_costOfFirst_X4_placeOf
theorem dX4_costOfFirst_0 : decode cX4_costOfFirst 0 = .ok (.aload_n 0, 1) := by decide +kernel
theorem dX4_costOfFirst_1 : decode cX4_costOfFirst 1 = .ok (.getfield 18, 3) := by decide +kernel
theorem dX4_costOfFirst_4 : decode cX4_costOfFirst 4 = .ok (.iconst 0, 1) := by decide +kernel
theorem dX4_costOfFirst_5 : decode cX4_costOfFirst 5 = .ok (.iconst 0, 1) := by decide +kernel
theorem dX4_costOfFirst_6 : decode cX4_costOfFirst 6 = .ok (.iload_n 1, 1) := by decide +kernel
theorem dX4_costOfFirst_7 : decode cX4_costOfFirst 7 = .ok (.iload_n 2, 1) := by decide +kernel
theorem dX4_costOfFirst_8 : decode cX4_costOfFirst 8 = .ok (.invokestatic 68, 3) := by decide +kernel
theorem dX4_costOfFirst_11 : decode cX4_costOfFirst 11 = .ok (.iaload, 1) := by decide +kernel
theorem dX4_costOfFirst_12 : decode cX4_costOfFirst 12 = .ok (.istore_n 3, 1) := by decide +kernel
theorem dX4_costOfFirst_13 : decode cX4_costOfFirst 13 = .ok (.aload_n 0, 1) := by decide +kernel
theorem dX4_costOfFirst_14 : decode cX4_costOfFirst 14 = .ok (.getfield 35, 3) := by decide +kernel
theorem dX4_costOfFirst_17 : decode cX4_costOfFirst 17 = .ok (.iconst (-1), 1) := by decide +kernel
theorem dX4_costOfFirst_18 : decode cX4_costOfFirst 18 = .ok (.if_icmp .ne 7, 3) := by decide +kernel
theorem dX4_costOfFirst_21 : decode cX4_costOfFirst 21 = .ok (.iload_n 3, 1) := by decide +kernel
theorem dX4_costOfFirst_22 : decode cX4_costOfFirst 22 = .ok (.goto 14, 3) := by decide +kernel
theorem dX4_costOfFirst_25 : decode cX4_costOfFirst 25 = .ok (.iload_n 3, 1) := by decide +kernel
theorem dX4_costOfFirst_26 : decode cX4_costOfFirst 26 = .ok (.iload_n 1, 1) := by decide +kernel
theorem dX4_costOfFirst_27 : decode cX4_costOfFirst 27 = .ok (.invokestatic 83, 3) := by decide +kernel
theorem dX4_costOfFirst_30 : decode cX4_costOfFirst 30 = .ok (.iadd, 1) := by decide +kernel
theorem dX4_costOfFirst_31 : decode cX4_costOfFirst 31 = .ok (.iload_n 2, 1) := by decide +kernel
theorem dX4_costOfFirst_32 : decode cX4_costOfFirst 32 = .ok (.invokestatic 83, 3) := by decide +kernel
theorem dX4_costOfFirst_35 : decode cX4_costOfFirst 35 = .ok (.iadd, 1) := by decide +kernel
theorem dX4_costOfFirst_36 : decode cX4_costOfFirst 36 = .ok (.ireturn, 1) := by decide +kernel
def rmX4_costOfFirst : Room := { frames := 1, cells := 0, slots := 0, locals := 24 }
def wX4_costOfFirst (M : zM) (o0 : Nat) (x1 : Int32) (x2 : Int32) (Q : Int32 → Prop) : Prop :=
    wX4_placeOf M (0 : Int32) (0 : Int32) x1 x2 (fun r5 =>
    vp_in r5 4116 ∧
    ((¬ (M o0 3) = (-1 : Int32)) → (
    ∀ x6 : Int32, x6 = (((M (o0 + 6) r5.toNatClampNeg) + (zabs x1)) + (zabs x2)) →
    Q x6)) ∧
    (((M o0 3) = (-1 : Int32)) → (
    Q (M (o0 + 6) r5.toNatClampNeg))))
set_option maxHeartbeats 4000000 in
set_option maxRecDepth 100000 in
theorem kX4_costOfFirst {l : Launch} {D : va_G} {Y : zY} {ad kd : Nat → Nat} {RL : List Nat} {M : zM} {J : zL} {o0 : Nat} {x1 : Int32} {x2 : Int32} (h_o0 : kd o0 = 4) {Q : Int32 → Prop} (hq : wX4_costOfFirst M o0 x1 x2 Q) : zCi l yX4_costOfFirst wsX4_costOfFirst rmX4_costOfFirst [.ref (ad o0), .int x1, .int x2] D Y ad kd RL M J (fun r M' J' => Q r ∧ M = M' ∧ J = J') := by
  refine z_meti (cc := cX4_costOfFirst) (maxL := 4) (ret := (some .int)) (by decide) rfl (Nat.le_of_ble_eq_true rfl) ?_
  intro p e s m below meth c ls A ar QE hQE hx hb hr hml hown hts hlk hw hl
  have hown : s.vm.findClass RX4 = some m.cls := hown
  have hl : lv_has ls 4 [(0, .ref (ad o0)), (1, .int x1), (2, .int x2)] := hl
  have hC := hw.2.2.2.2.2.1
  have g4 : ∀ w ∈ wsX40, w.before ar s = true := (fun w h => hts w (List.mem_cons_of_mem _ (List.mem_append_right _ h)))
  have q1 := hts _ (List.mem_of_getElem? (i := 1) rfl)
  have q2 := hts _ (List.mem_of_getElem? (i := 2) rfl)
  have q3 := hts _ (List.mem_of_getElem? (i := 3) rfl)
  have q4 := hts _ (List.mem_of_getElem? (i := 4) rfl)
  have q5 := hts _ (List.mem_of_getElem? (i := 5) rfl)
  have q6 := hts _ (List.mem_of_getElem? (i := 6) rfl)
  unfold wX4_costOfFirst at hq
  refine lv_aload_n hx hb dX4_costOfFirst_0 rfl (lv_at hl 0 rfl) ?_
  refine zg4_table hx hb g4 hown hw h_o0 q1 dX4_costOfFirst_1 ?_
  refine lv_iconst (v := (0 : Int32)) hx hb dX4_costOfFirst_4 (by decide) ?_
  refine lv_iconst (v := (0 : Int32)) hx hb dX4_costOfFirst_5 (by decide) ?_
  refine lv_iload_n hx hb dX4_costOfFirst_6 rfl (lv_at hl 1 rfl) ?_
  refine lv_iload_n hx hb dX4_costOfFirst_7 rfl (lv_at hl 2 rfl) ?_
  refine z_csi ⟨hx, hb, hml, hown, hts⟩ hw (kX4_placeOf  hq) (va_cwS 4 hts gX4_costOfFirst_X4_placeOf rfl rfl rfl (by decide +kernel) ⟨Nat.le_of_ble_eq_true rfl, Nat.le_of_ble_eq_true rfl⟩) rfl hl.1 rfl (Nat.le_of_ble_eq_true rfl) dX4_costOfFirst_8 ⟨Nat.zero_le _, Nat.zero_le _⟩ (fun r5 M0 J0 H locs hq hw => ?_)
  obtain ⟨hq, rfl, rfl⟩ := hq
  obtain ⟨hi, hq⟩ := hq
  refine z_iald (n := 4116) hx hb hw (zk_4_6 hC h_o0) hi dX4_costOfFirst_11 ?_
  refine lv_istore_n (lv' := [(3, .int (M (o0 + 6) r5.toNatClampNeg)), (0, .ref (ad o0)), (1, .int x1), (2, .int x2)]) hx hb dX4_costOfFirst_12 rfl hl (by decide) rfl (fun ls hl => ?_)
  refine lv_aload_n hx hb dX4_costOfFirst_13 rfl (lv_at hl 1 rfl) ?_
  refine zg4_limit hx hb g4 hown hw h_o0 q2 dX4_costOfFirst_14 ?_
  refine lv_iconst (v := (-1 : Int32)) hx hb dX4_costOfFirst_17 (by decide) ?_
  refine lv_icmp_ne (tgt := 25) hx hb dX4_costOfFirst_18 (by decide) (fun hc => ?_) (fun hc => ?_)
  · have hq := hq.1 hc
    refine lv_iload_n hx hb dX4_costOfFirst_25 rfl (lv_at hl 0 rfl) ?_
    refine lv_iload_n hx hb dX4_costOfFirst_26 rfl (lv_at hl 2 rfl) ?_
    refine va_mabs hx hb (hml.trans hl.1.symm) hown q3 q4 q5 q6 (Nat.le_of_ble_eq_true rfl) (Nat.le_of_ble_eq_true rfl) (Nat.zero_le _) (Nat.zero_le _) dX4_costOfFirst_27 ?_
    refine lv_iadd hx hb dX4_costOfFirst_30 ?_
    refine lv_iload_n hx hb dX4_costOfFirst_31 rfl (lv_at hl 3 rfl) ?_
    refine va_mabs hx hb (hml.trans hl.1.symm) hown q3 q4 q5 q6 (Nat.le_of_ble_eq_true rfl) (Nat.le_of_ble_eq_true rfl) (Nat.zero_le _) (Nat.zero_le _) dX4_costOfFirst_32 ?_
    refine lv_iadd hx hb dX4_costOfFirst_35 ?_
    refine lv_topi (fun x6 e_x6 => ?_)
    have hq := hq x6 e_x6
    exact z_iret hQE hx hb hr hlk hw dX4_costOfFirst_36 ⟨hq, rfl, rfl⟩
  · have hq := hq.2 hc
    refine lv_iload_n hx hb dX4_costOfFirst_21 rfl (lv_at hl 0 rfl) ?_
    refine lv_goto (tgt := 36) hx hb dX4_costOfFirst_22 (by decide) ?_
    exact z_iret hQE hx hb hr hlk hw dX4_costOfFirst_36 ⟨hq, rfl, rfl⟩
set_option maxRecDepth 20000 in
theorem ggX4_leastOfAll_X2_reach : GoodIn wsX4_leastOfAll wsX2_reach := goodIn_r _ [11, 12, 13, 14, 15, 16, 5, 17, 38, 39, 40, 41, 42, 43] (by decide +kernel) (by decide +kernel)
set_option maxRecDepth 20000 in
theorem gX4_leastOfAll_X2_reach : GoodIn wsX4_leastOfAll (wsV RX4 60 RX2 yX2_reach wsX2_reach) := goodIn_app (goodIn_of _ (by decide +kernel)) ggX4_leastOfAll_X2_reach
set_option maxRecDepth 20000 in
theorem ggX4_leastOfAll_X4_costOfFirst : GoodIn wsX4_leastOfAll wsX4_costOfFirst := goodIn_r _ [22, 23, 24, 25, 26, 5, 27, 28, 29, 21, 30, 31, 32, 33, 34, 35, 36, 37] (by decide +kernel) (by decide +kernel)
set_option maxRecDepth 20000 in
theorem gX4_leastOfAll_X4_costOfFirst : GoodIn wsX4_leastOfAll (wsV RX4 95 RX4 yX4_costOfFirst wsX4_costOfFirst) := goodIn_app (goodIn_of _ (by decide +kernel)) ggX4_leastOfAll_X4_costOfFirst
theorem dX4_leastOfAll_0 : decode cX4_leastOfAll 0 = .ok (.aload_n 0, 1) := by decide +kernel
theorem dX4_leastOfAll_1 : decode cX4_leastOfAll 1 = .ok (.getfield 12, 3) := by decide +kernel
theorem dX4_leastOfAll_4 : decode cX4_leastOfAll 4 = .ok (.iconst 0, 1) := by decide +kernel
theorem dX4_leastOfAll_5 : decode cX4_leastOfAll 5 = .ok (.invokevirtual 60, 3) := by decide +kernel
theorem dX4_leastOfAll_8 : decode cX4_leastOfAll 8 = .ok (.istore_n 1, 1) := by decide +kernel
theorem dX4_leastOfAll_9 : decode cX4_leastOfAll 9 = .ok (.aload_n 0, 1) := by decide +kernel
theorem dX4_leastOfAll_10 : decode cX4_leastOfAll 10 = .ok (.getfield 12, 3) := by decide +kernel
theorem dX4_leastOfAll_13 : decode cX4_leastOfAll 13 = .ok (.iconst 1, 1) := by decide +kernel
theorem dX4_leastOfAll_14 : decode cX4_leastOfAll 14 = .ok (.invokevirtual 60, 3) := by decide +kernel
theorem dX4_leastOfAll_17 : decode cX4_leastOfAll 17 = .ok (.istore_n 2, 1) := by decide +kernel
theorem dX4_leastOfAll_18 : decode cX4_leastOfAll 18 = .ok (.ldc 82, 2) := by decide +kernel
theorem dX4_leastOfAll_20 : decode cX4_leastOfAll 20 = .ok (.istore_n 3, 1) := by decide +kernel
theorem dX4_leastOfAll_21 : decode cX4_leastOfAll 21 = .ok (.iload_n 1, 1) := by decide +kernel
theorem dX4_leastOfAll_22 : decode cX4_leastOfAll 22 = .ok (.ineg, 1) := by decide +kernel
theorem dX4_leastOfAll_23 : decode cX4_leastOfAll 23 = .ok (.istore 4, 2) := by decide +kernel
theorem dX4_leastOfAll_25 : decode cX4_leastOfAll 25 = .ok (.iload 4, 2) := by decide +kernel
theorem dX4_leastOfAll_27 : decode cX4_leastOfAll 27 = .ok (.iload_n 1, 1) := by decide +kernel
theorem dX4_leastOfAll_28 : decode cX4_leastOfAll 28 = .ok (.if_icmp .gt 38, 3) := by decide +kernel
theorem dX4_leastOfAll_31 : decode cX4_leastOfAll 31 = .ok (.iload_n 2, 1) := by decide +kernel
theorem dX4_leastOfAll_32 : decode cX4_leastOfAll 32 = .ok (.ineg, 1) := by decide +kernel
theorem dX4_leastOfAll_33 : decode cX4_leastOfAll 33 = .ok (.istore 5, 2) := by decide +kernel
theorem dX4_leastOfAll_35 : decode cX4_leastOfAll 35 = .ok (.iload 5, 2) := by decide +kernel
theorem dX4_leastOfAll_37 : decode cX4_leastOfAll 37 = .ok (.iload_n 2, 1) := by decide +kernel
theorem dX4_leastOfAll_38 : decode cX4_leastOfAll 38 = .ok (.if_icmp .gt 22, 3) := by decide +kernel
theorem dX4_leastOfAll_41 : decode cX4_leastOfAll 41 = .ok (.iload_n 3, 1) := by decide +kernel
theorem dX4_leastOfAll_42 : decode cX4_leastOfAll 42 = .ok (.aload_n 0, 1) := by decide +kernel
theorem dX4_leastOfAll_43 : decode cX4_leastOfAll 43 = .ok (.iload 4, 2) := by decide +kernel
theorem dX4_leastOfAll_45 : decode cX4_leastOfAll 45 = .ok (.iload 5, 2) := by decide +kernel
theorem dX4_leastOfAll_47 : decode cX4_leastOfAll 47 = .ok (.invokevirtual 95, 3) := by decide +kernel
theorem dX4_leastOfAll_50 : decode cX4_leastOfAll 50 = .ok (.invokestatic 99, 3) := by decide +kernel
theorem dX4_leastOfAll_53 : decode cX4_leastOfAll 53 = .ok (.istore_n 3, 1) := by decide +kernel
theorem dX4_leastOfAll_54 : decode cX4_leastOfAll 54 = .ok (.iinc 5 1, 3) := by decide +kernel
theorem dX4_leastOfAll_57 : decode cX4_leastOfAll 57 = .ok (.goto (-22), 3) := by decide +kernel
theorem dX4_leastOfAll_60 : decode cX4_leastOfAll 60 = .ok (.iinc 4 1, 3) := by decide +kernel
theorem dX4_leastOfAll_63 : decode cX4_leastOfAll 63 = .ok (.goto (-38), 3) := by decide +kernel
theorem dX4_leastOfAll_66 : decode cX4_leastOfAll 66 = .ok (.iload_n 3, 1) := by decide +kernel
theorem dX4_leastOfAll_67 : decode cX4_leastOfAll 67 = .ok (.ireturn, 1) := by decide +kernel
def rmX4_leastOfAll : Room := { frames := 2, cells := 0, slots := 0, locals := 47 }
def lpX4_leastOfAll_35 (M : zM) (o0 : Nat) (r4 : Int32) (x6 : Int32) (K35_60 : Int32 → Int32 → Prop) : Nat → Int32 → Int32 → Prop
  | 0, _, _ => False
  | fu35 + 1, x7, x8 =>
    ((r4 < x8) → (
    K35_60 x7 x8)) ∧
    ((¬ r4 < x8) → (
    wX4_costOfFirst M o0 x6 x8 (fun r12 =>
    ∀ x13 : Int32, x13 = x8 + (1 : Int32) →
    lpX4_leastOfAll_35 M o0 r4 x6 K35_60 fu35 (zmin x7 r12) x13)))
def lpX4_leastOfAll_25 (M : zM) (o0 : Nat) (r3 : Int32) (r4 : Int32) (Q : Int32 → Prop) : Nat → Int32 → Int32 → Prop
  | 0, _, _ => False
  | fu25 + 1, x5, x6 =>
    ((r3 < x6) → (
    Q x5)) ∧
    ((¬ r3 < x6) → (
    ∃ fu35 : Nat, lpX4_leastOfAll_35 M o0 r4 x6 (fun x9 x10 =>
    ∀ x11 : Int32, x11 = x6 + (1 : Int32) →
    lpX4_leastOfAll_25 M o0 r3 r4 Q fu25 x9 x11) fu35 x5 (-r4)))
def wX4_leastOfAll (M : zM) (o0 : Nat) (Q : Int32 → Prop) : Prop :=
    wX2_reach M (o0 + 1) (0 : Int32) (fun r3 =>
    wX2_reach M (o0 + 1) (1 : Int32) (fun r4 =>
    ∃ fu25 : Nat, lpX4_leastOfAll_25 M o0 r3 r4 Q fu25 (268435456 : Int32) (-r3)))
set_option maxHeartbeats 4000000 in
set_option maxRecDepth 100000 in
theorem kX4_leastOfAll {l : Launch} {D : va_G} {Y : zY} {ad kd : Nat → Nat} {RL : List Nat} {M : zM} {J : zL} {o0 : Nat} (h_o0 : kd o0 = 4) {Q : Int32 → Prop} (hq : wX4_leastOfAll M o0 Q) : zCi l yX4_leastOfAll wsX4_leastOfAll rmX4_leastOfAll [.ref (ad o0)] D Y ad kd RL M J (fun r M' J' => Q r ∧ M = M' ∧ J = J') := by
  refine z_meti (cc := cX4_leastOfAll) (maxL := 6) (ret := (some .int)) (by decide) rfl (Nat.le_of_ble_eq_true rfl) ?_
  intro p e s m below meth c ls A ar QE hQE hx hb hr hml hown hts hlk hw hl
  have hown : s.vm.findClass RX4 = some m.cls := hown
  have hl : lv_has ls 6 [(0, .ref (ad o0))] := hl
  have hC := hw.2.2.2.2.2.1
  have g4 : ∀ w ∈ wsX40, w.before ar s = true := (fun w h => hts w (List.mem_cons_of_mem _ (List.mem_append_left _ (List.mem_append_right _ h))))
  have q1 := hts _ (List.mem_of_getElem? (i := 1) rfl)
  have q2 := hts _ (List.mem_of_getElem? (i := 2) rfl)
  have q3 := hts _ (List.mem_of_getElem? (i := 3) rfl)
  have q4 := hts _ (List.mem_of_getElem? (i := 4) rfl)
  have q5 := hts _ (List.mem_of_getElem? (i := 5) rfl)
  have q6 := hts _ (List.mem_of_getElem? (i := 6) rfl)
  unfold wX4_leastOfAll at hq
  refine lv_aload_n hx hb dX4_leastOfAll_0 rfl (lv_at hl 0 rfl) ?_
  refine zg4_known hx hb g4 hown hw h_o0 q1 dX4_leastOfAll_1 ?_
  refine lv_iconst (v := (0 : Int32)) hx hb dX4_leastOfAll_4 (by decide) ?_
  refine z_cvi ⟨hx, hb, hml, hown, hts⟩ hw (zk_4_1 hC h_o0) (kX2_reach (zk_4_1 hC h_o0) hq) (by decide) rfl (cwV 1 hts gX4_leastOfAll_X2_reach rfl rfl rfl (by decide +kernel) ⟨Nat.le_of_ble_eq_true rfl, Nat.le_of_ble_eq_true rfl⟩) rfl hl.1 rfl (Nat.le_of_ble_eq_true rfl) dX4_leastOfAll_5 ⟨Nat.zero_le _, Nat.zero_le _⟩ (fun r3 M0 J0 H locs hq hw => ?_)
  obtain ⟨hq, rfl, rfl⟩ := hq
  refine lv_istore_n (lv' := [(1, .int r3), (0, .ref (ad o0))]) hx hb dX4_leastOfAll_8 rfl hl (by decide) rfl (fun ls hl => ?_)
  refine lv_aload_n hx hb dX4_leastOfAll_9 rfl (lv_at hl 1 rfl) ?_
  refine zg4_known hx hb g4 hown hw h_o0 q1 dX4_leastOfAll_10 ?_
  refine lv_iconst (v := (1 : Int32)) hx hb dX4_leastOfAll_13 (by decide) ?_
  refine z_cvi ⟨hx, hb, hml, hown, hts⟩ hw (zk_4_1 hC h_o0) (kX2_reach (zk_4_1 hC h_o0) hq) (by decide) rfl (cwV 1 hts gX4_leastOfAll_X2_reach rfl rfl rfl (by decide +kernel) ⟨Nat.le_of_ble_eq_true rfl, Nat.le_of_ble_eq_true rfl⟩) rfl hl.1 rfl (Nat.le_of_ble_eq_true rfl) dX4_leastOfAll_14 ⟨Nat.zero_le _, Nat.zero_le _⟩ (fun r4 M0 J0 H locs hq hw => ?_)
  obtain ⟨hq, rfl, rfl⟩ := hq
  refine lv_istore_n (lv' := [(2, .int r4), (1, .int r3), (0, .ref (ad o0))]) hx hb dX4_leastOfAll_17 rfl hl (by decide) rfl (fun ls hl => ?_)
  refine lv_ldc (v := (268435456 : Int32)) hx hb hown q2 dX4_leastOfAll_18 ?_
  refine lv_istore_n (lv' := [(3, .int (268435456 : Int32)), (2, .int r4), (1, .int r3), (0, .ref (ad o0))]) hx hb dX4_leastOfAll_20 rfl hl (by decide) rfl (fun ls hl => ?_)
  refine lv_iload_n hx hb dX4_leastOfAll_21 rfl (lv_at hl 2 rfl) ?_
  refine lv_ineg hx hb dX4_leastOfAll_22 ?_
  refine lv_istore (lv' := [(4, .int (-r3)), (3, .int (268435456 : Int32)), (2, .int r4), (1, .int r3), (0, .ref (ad o0))]) hx hb dX4_leastOfAll_23 hl (by decide) rfl (fun ls hl => ?_)
  obtain ⟨fu25, hq⟩ := hq
  have lp25 : ∀ (fu25 : Nat) (x5 : Int32) (x6 : Int32) (H : Heap) (locs : List Loc) (ls : Array Slot), lpX4_leastOfAll_25 M o0 r3 r4 Q fu25 x5 x6 → zH D Y ad kd RL M J A s.heap H locs s → lv_has ls 6 [(0, .ref (ad o0)), (1, .int r3), (2, .int r4), (3, .int x5), (4, .int x6)] → W p l e rmX4_leastOfAll s m ar below meth c H locs 0 0 QE (F0 m 25 ls []) := by
    intro fu25
    induction fu25 with
    | zero => intro x5 x6 H locs ls hq; exact hq.elim
    | succ fu25 ih25 =>
      intro x5 x6 H locs ls hq hw hl
      unfold lpX4_leastOfAll_25 at hq
      refine lv_iload hx hb dX4_leastOfAll_25 (lv_at hl 4 rfl) ?_
      refine lv_iload_n hx hb dX4_leastOfAll_27 rfl (lv_at hl 1 rfl) ?_
      refine lv_icmp_gt (tgt := 66) hx hb dX4_leastOfAll_28 (by decide) (fun hc => ?_) (fun hc => ?_)
      · have hq := hq.1 hc
        refine lv_iload_n hx hb dX4_leastOfAll_66 rfl (lv_at hl 3 rfl) ?_
        exact z_iret hQE hx hb hr hlk hw dX4_leastOfAll_67 ⟨hq, rfl, rfl⟩
      · have hq := hq.2 hc
        refine lv_iload_n hx hb dX4_leastOfAll_31 rfl (lv_at hl 2 rfl) ?_
        refine lv_ineg hx hb dX4_leastOfAll_32 ?_
        refine lv_istore (lv' := [(5, .int (-r4)), (0, .ref (ad o0)), (1, .int r3), (2, .int r4), (3, .int x5), (4, .int x6)]) hx hb dX4_leastOfAll_33 hl (by decide) rfl (fun ls hl => ?_)
        have ex35_60 : ∀ (x9 : Int32) (x10 : Int32) (H : Heap) (locs : List Loc) (ls : Array Slot), (∀ x11 : Int32, x11 = x6 + (1 : Int32) → lpX4_leastOfAll_25 M o0 r3 r4 Q fu25 x9 x11) → zH D Y ad kd RL M J A s.heap H locs s → lv_has ls 6 [(0, .ref (ad o0)), (1, .int r3), (2, .int r4), (3, .int x9), (4, .int x6)] → W p l e rmX4_leastOfAll s m ar below meth c H locs 0 0 QE (F0 m 60 ls []) := by
          intro x9 x10 H locs ls hq hw hl
          obtain ⟨x11, e_x11⟩ : ∃ y : Int32, y = x6 + (1 : Int32) := ⟨_, rfl⟩
          have hq := hq x11 e_x11
          refine lv_iinc (v := x11) (lv' := [(4, .int x11), (0, .ref (ad o0)), (1, .int r3), (2, .int r4), (3, .int x9)]) hx hb dX4_leastOfAll_60 hl (k := 4) rfl (by rw [e_x11]; rfl) (by decide) rfl (fun ls hl => ?_)
          refine lv_goto (tgt := 25) hx hb dX4_leastOfAll_63 (by decide) ?_
          exact ih25 x9 x11 _ _ _ hq hw (lv_sub hl [1, 2, 3, 4, 0] rfl)
        obtain ⟨fu35, hq⟩ := hq
        have lp35 : ∀ (fu35 : Nat) (x7 : Int32) (x8 : Int32) (H : Heap) (locs : List Loc) (ls : Array Slot), lpX4_leastOfAll_35 M o0 r4 x6 (fun x9 x10 => ∀ x11 : Int32, x11 = x6 + (1 : Int32) → lpX4_leastOfAll_25 M o0 r3 r4 Q fu25 x9 x11) fu35 x7 x8 → zH D Y ad kd RL M J A s.heap H locs s → lv_has ls 6 [(0, .ref (ad o0)), (1, .int r3), (2, .int r4), (3, .int x7), (4, .int x6), (5, .int x8)] → W p l e rmX4_leastOfAll s m ar below meth c H locs 0 0 QE (F0 m 35 ls []) := by
          intro fu35
          induction fu35 with
          | zero => intro x7 x8 H locs ls hq; exact hq.elim
          | succ fu35 ih35 =>
            intro x7 x8 H locs ls hq hw hl
            unfold lpX4_leastOfAll_35 at hq
            refine lv_iload hx hb dX4_leastOfAll_35 (lv_at hl 5 rfl) ?_
            refine lv_iload_n hx hb dX4_leastOfAll_37 rfl (lv_at hl 2 rfl) ?_
            refine lv_icmp_gt (tgt := 60) hx hb dX4_leastOfAll_38 (by decide) (fun hc => ?_) (fun hc => ?_)
            · have hq := hq.1 hc
              exact ex35_60 x7 x8 _ _ _ hq hw (lv_sub hl [0, 1, 2, 3, 4] rfl)
            · have hq := hq.2 hc
              refine lv_iload_n hx hb dX4_leastOfAll_41 rfl (lv_at hl 3 rfl) ?_
              refine lv_aload_n hx hb dX4_leastOfAll_42 rfl (lv_at hl 0 rfl) ?_
              refine lv_iload hx hb dX4_leastOfAll_43 (lv_at hl 4 rfl) ?_
              refine lv_iload hx hb dX4_leastOfAll_45 (lv_at hl 5 rfl) ?_
              refine z_cvi ⟨hx, hb, hml, hown, hts⟩ hw h_o0 (kX4_costOfFirst h_o0 hq) (by decide) rfl (cwV 2 hts gX4_leastOfAll_X4_costOfFirst rfl rfl rfl (by decide +kernel) ⟨Nat.le_of_ble_eq_true rfl, Nat.le_of_ble_eq_true rfl⟩) rfl hl.1 rfl (Nat.le_of_ble_eq_true rfl) dX4_leastOfAll_47 ⟨Nat.zero_le _, Nat.zero_le _⟩ (fun r12 M0 J0 H locs hq hw => ?_)
              obtain ⟨hq, rfl, rfl⟩ := hq
              refine va_mmin hx hb (hml.trans hl.1.symm) hown q3 q4 q5 q6 (Nat.le_of_ble_eq_true rfl) (Nat.le_of_ble_eq_true rfl) (Nat.zero_le _) (Nat.zero_le _) dX4_leastOfAll_50 ?_
              refine lv_istore_n (lv' := [(3, .int (zmin x7 r12)), (0, .ref (ad o0)), (1, .int r3), (2, .int r4), (4, .int x6), (5, .int x8)]) hx hb dX4_leastOfAll_53 rfl hl (by decide) rfl (fun ls hl => ?_)
              obtain ⟨x13, e_x13⟩ : ∃ y : Int32, y = x8 + (1 : Int32) := ⟨_, rfl⟩
              have hq := hq x13 e_x13
              refine lv_iinc (v := x13) (lv' := [(5, .int x13), (3, .int (zmin x7 r12)), (0, .ref (ad o0)), (1, .int r3), (2, .int r4), (4, .int x6)]) hx hb dX4_leastOfAll_54 hl (k := 5) rfl (by rw [e_x13]; rfl) (by decide) rfl (fun ls hl => ?_)
              refine lv_goto (tgt := 35) hx hb dX4_leastOfAll_57 (by decide) ?_
              exact ih35 (zmin x7 r12) x13 _ _ _ hq hw (lv_sub hl [2, 3, 4, 1, 5, 0] rfl)
        exact lp35 fu35 x5 (-r4) _ _ _ hq hw (lv_sub hl [1, 2, 3, 4, 5, 0] rfl)
  exact lp25 fu25 (268435456 : Int32) (-r3) _ _ _ hq hw (lv_sub hl [4, 3, 2, 1, 0] rfl)
theorem dX4_costOf_0 : decode cX4_costOf 0 = .ok (.aload_n 0, 1) := by decide +kernel
theorem dX4_costOf_1 : decode cX4_costOf 1 = .ok (.getfield 35, 3) := by decide +kernel
theorem dX4_costOf_4 : decode cX4_costOf 4 = .ok (.iconst (-1), 1) := by decide +kernel
theorem dX4_costOf_5 : decode cX4_costOf 5 = .ok (.if_icmp .ne 14, 3) := by decide +kernel
theorem dX4_costOf_8 : decode cX4_costOf 8 = .ok (.iload_n 1, 1) := by decide +kernel
theorem dX4_costOf_9 : decode cX4_costOf 9 = .ok (.iload_n 3, 1) := by decide +kernel
theorem dX4_costOf_10 : decode cX4_costOf 10 = .ok (.if_icmp .le 7, 3) := by decide +kernel
theorem dX4_costOf_13 : decode cX4_costOf 13 = .ok (.iload_n 1, 1) := by decide +kernel
theorem dX4_costOf_14 : decode cX4_costOf 14 = .ok (.goto 4, 3) := by decide +kernel
theorem dX4_costOf_17 : decode cX4_costOf 17 = .ok (.iload_n 3, 1) := by decide +kernel
theorem dX4_costOf_18 : decode cX4_costOf 18 = .ok (.ireturn, 1) := by decide +kernel
theorem dX4_costOf_19 : decode cX4_costOf 19 = .ok (.iload_n 1, 1) := by decide +kernel
theorem dX4_costOf_20 : decode cX4_costOf 20 = .ok (.aload_n 0, 1) := by decide +kernel
theorem dX4_costOf_21 : decode cX4_costOf 21 = .ok (.getfield 35, 3) := by decide +kernel
theorem dX4_costOf_24 : decode cX4_costOf 24 = .ok (.if_icmp .gt 9, 3) := by decide +kernel
theorem dX4_costOf_27 : decode cX4_costOf 27 = .ok (.iload_n 3, 1) := by decide +kernel
theorem dX4_costOf_28 : decode cX4_costOf 28 = .ok (.ldc 82, 2) := by decide +kernel
theorem dX4_costOf_30 : decode cX4_costOf 30 = .ok (.if_icmp .lt 6, 3) := by decide +kernel
theorem dX4_costOf_33 : decode cX4_costOf 33 = .ok (.ldc 82, 2) := by decide +kernel
theorem dX4_costOf_35 : decode cX4_costOf 35 = .ok (.ireturn, 1) := by decide +kernel
theorem dX4_costOf_36 : decode cX4_costOf 36 = .ok (.iload_n 1, 1) := by decide +kernel
theorem dX4_costOf_37 : decode cX4_costOf 37 = .ok (.bipush 64, 2) := by decide +kernel
theorem dX4_costOf_39 : decode cX4_costOf 39 = .ok (.imul, 1) := by decide +kernel
theorem dX4_costOf_40 : decode cX4_costOf 40 = .ok (.iload_n 2, 1) := by decide +kernel
theorem dX4_costOf_41 : decode cX4_costOf 41 = .ok (.ifCond .ge 8, 3) := by decide +kernel
theorem dX4_costOf_44 : decode cX4_costOf 44 = .ok (.iload_n 2, 1) := by decide +kernel
theorem dX4_costOf_45 : decode cX4_costOf 45 = .ok (.ineg, 1) := by decide +kernel
theorem dX4_costOf_46 : decode cX4_costOf 46 = .ok (.goto 4, 3) := by decide +kernel
theorem dX4_costOf_49 : decode cX4_costOf 49 = .ok (.iload_n 2, 1) := by decide +kernel
theorem dX4_costOf_50 : decode cX4_costOf 50 = .ok (.iadd, 1) := by decide +kernel
theorem dX4_costOf_51 : decode cX4_costOf 51 = .ok (.iload_n 3, 1) := by decide +kernel
theorem dX4_costOf_52 : decode cX4_costOf 52 = .ok (.iadd, 1) := by decide +kernel
theorem dX4_costOf_53 : decode cX4_costOf 53 = .ok (.ireturn, 1) := by decide +kernel
def rmX4_costOf : Room := { frames := 0, cells := 0, slots := 0, locals := 0 }
def wX4_costOf (M : zM) (o0 : Nat) (x1 : Int32) (x2 : Int32) (x3 : Int32) (Q : Int32 → Prop) : Prop :=
    ((¬ (M o0 3) = (-1 : Int32)) → (
    (((M o0 3) < x1) → (
    Q (268435456 : Int32))) ∧
    ((¬ (M o0 3) < x1) → (
    ((x3 < (268435456 : Int32)) → (
    ((0 ≤ x2) → (
    Q (((x1 * (64 : Int32)) + x2) + x3))) ∧
    ((¬ 0 ≤ x2) → (
    Q (((x1 * (64 : Int32)) + (-x2)) + x3))))) ∧
    ((¬ x3 < (268435456 : Int32)) → (
    Q (268435456 : Int32))))))) ∧
    (((M o0 3) = (-1 : Int32)) → (
    ((x1 ≤ x3) → (
    Q x3)) ∧
    ((¬ x1 ≤ x3) → (
    Q x1))))
set_option maxHeartbeats 4000000 in
set_option maxRecDepth 100000 in
theorem kX4_costOf {l : Launch} {D : va_G} {Y : zY} {ad kd : Nat → Nat} {RL : List Nat} {M : zM} {J : zL} {o0 : Nat} {x1 : Int32} {x2 : Int32} {x3 : Int32} (h_o0 : kd o0 = 4) {Q : Int32 → Prop} (hq : wX4_costOf M o0 x1 x2 x3 Q) : zCi l yX4_costOf wsX4_costOf rmX4_costOf [.ref (ad o0), .int x1, .int x2, .int x3] D Y ad kd RL M J (fun r M' J' => Q r ∧ M = M' ∧ J = J') := by
  refine z_meti (cc := cX4_costOf) (maxL := 4) (ret := (some .int)) (by decide) rfl (Nat.le_of_ble_eq_true rfl) ?_
  intro p e s m below meth c ls A ar QE hQE hx hb hr hml hown hts hlk hw hl
  have hown : s.vm.findClass RX4 = some m.cls := hown
  have hl : lv_has ls 4 [(0, .ref (ad o0)), (1, .int x1), (2, .int x2), (3, .int x3)] := hl
  have hC := hw.2.2.2.2.2.1
  have g4 : ∀ w ∈ wsX40, w.before ar s = true := (fun w h => hts w (List.mem_cons_of_mem _ (List.mem_append_right _ h)))
  have q1 := hts _ (List.mem_of_getElem? (i := 1) rfl)
  have q2 := hts _ (List.mem_of_getElem? (i := 2) rfl)
  unfold wX4_costOf at hq
  refine lv_aload_n hx hb dX4_costOf_0 rfl (lv_at hl 0 rfl) ?_
  refine zg4_limit hx hb g4 hown hw h_o0 q1 dX4_costOf_1 ?_
  refine lv_iconst (v := (-1 : Int32)) hx hb dX4_costOf_4 (by decide) ?_
  refine lv_icmp_ne (tgt := 19) hx hb dX4_costOf_5 (by decide) (fun hc => ?_) (fun hc => ?_)
  · have hq := hq.1 hc
    refine lv_iload_n hx hb dX4_costOf_19 rfl (lv_at hl 1 rfl) ?_
    refine lv_aload_n hx hb dX4_costOf_20 rfl (lv_at hl 0 rfl) ?_
    refine zg4_limit hx hb g4 hown hw h_o0 q1 dX4_costOf_21 ?_
    refine lv_icmp_gt (tgt := 33) hx hb dX4_costOf_24 (by decide) (fun hc => ?_) (fun hc => ?_)
    · have hq := hq.1 hc
      refine lv_ldc (v := (268435456 : Int32)) hx hb hown q2 dX4_costOf_33 ?_
      exact z_iret hQE hx hb hr hlk hw dX4_costOf_35 ⟨hq, rfl, rfl⟩
    · have hq := hq.2 hc
      refine lv_iload_n hx hb dX4_costOf_27 rfl (lv_at hl 3 rfl) ?_
      refine lv_ldc (v := (268435456 : Int32)) hx hb hown q2 dX4_costOf_28 ?_
      refine lv_icmp_lt (tgt := 36) hx hb dX4_costOf_30 (by decide) (fun hc => ?_) (fun hc => ?_)
      · have hq := hq.1 hc
        refine lv_iload_n hx hb dX4_costOf_36 rfl (lv_at hl 1 rfl) ?_
        refine lv_bipush (v := (64 : Int32)) hx hb dX4_costOf_37 (by decide) ?_
        refine lv_imul hx hb dX4_costOf_39 ?_
        refine lv_iload_n hx hb dX4_costOf_40 rfl (lv_at hl 2 rfl) ?_
        refine lv_if_ge (tgt := 49) hx hb dX4_costOf_41 (by decide) (fun hc => ?_) (fun hc => ?_)
        · have hq := hq.1 hc
          refine lv_iload_n hx hb dX4_costOf_49 rfl (lv_at hl 2 rfl) ?_
          refine lv_iadd hx hb dX4_costOf_50 ?_
          refine lv_iload_n hx hb dX4_costOf_51 rfl (lv_at hl 3 rfl) ?_
          refine lv_iadd hx hb dX4_costOf_52 ?_
          exact z_iret hQE hx hb hr hlk hw dX4_costOf_53 ⟨hq, rfl, rfl⟩
        · have hq := hq.2 hc
          refine lv_iload_n hx hb dX4_costOf_44 rfl (lv_at hl 2 rfl) ?_
          refine lv_ineg hx hb dX4_costOf_45 ?_
          refine lv_goto (tgt := 50) hx hb dX4_costOf_46 (by decide) ?_
          refine lv_iadd hx hb dX4_costOf_50 ?_
          refine lv_iload_n hx hb dX4_costOf_51 rfl (lv_at hl 3 rfl) ?_
          refine lv_iadd hx hb dX4_costOf_52 ?_
          exact z_iret hQE hx hb hr hlk hw dX4_costOf_53 ⟨hq, rfl, rfl⟩
      · have hq := hq.2 hc
        refine lv_ldc (v := (268435456 : Int32)) hx hb hown q2 dX4_costOf_33 ?_
        exact z_iret hQE hx hb hr hlk hw dX4_costOf_35 ⟨hq, rfl, rfl⟩
  · have hq := hq.2 hc
    refine lv_iload_n hx hb dX4_costOf_8 rfl (lv_at hl 1 rfl) ?_
    refine lv_iload_n hx hb dX4_costOf_9 rfl (lv_at hl 3 rfl) ?_
    refine lv_icmp_le (tgt := 17) hx hb dX4_costOf_10 (by decide) (fun hc => ?_) (fun hc => ?_)
    · have hq := hq.1 hc
      refine lv_iload_n hx hb dX4_costOf_17 rfl (lv_at hl 3 rfl) ?_
      exact z_iret hQE hx hb hr hlk hw dX4_costOf_18 ⟨hq, rfl, rfl⟩
    · have hq := hq.2 hc
      refine lv_iload_n hx hb dX4_costOf_13 rfl (lv_at hl 1 rfl) ?_
      refine lv_goto (tgt := 18) hx hb dX4_costOf_14 (by decide) ?_
      exact z_iret hQE hx hb hr hlk hw dX4_costOf_18 ⟨hq, rfl, rfl⟩
theorem dX4_leanOf_0 : decode cX4_leanOf 0 = .ok (.aload_n 0, 1) := by decide +kernel
theorem dX4_leanOf_1 : decode cX4_leanOf 1 = .ok (.getfield 12, 3) := by decide +kernel
theorem dX4_leanOf_4 : decode cX4_leanOf 4 = .ok (.getfield 92, 3) := by decide +kernel
theorem dX4_leanOf_7 : decode cX4_leanOf 7 = .ok (.iload_n 1, 1) := by decide +kernel
theorem dX4_leanOf_8 : decode cX4_leanOf 8 = .ok (.iaload, 1) := by decide +kernel
theorem dX4_leanOf_9 : decode cX4_leanOf 9 = .ok (.aload_n 0, 1) := by decide +kernel
theorem dX4_leanOf_10 : decode cX4_leanOf 10 = .ok (.getfield 12, 3) := by decide +kernel
theorem dX4_leanOf_13 : decode cX4_leanOf 13 = .ok (.getfield 92, 3) := by decide +kernel
theorem dX4_leanOf_16 : decode cX4_leanOf 16 = .ok (.iload_n 1, 1) := by decide +kernel
theorem dX4_leanOf_17 : decode cX4_leanOf 17 = .ok (.iconst 1, 1) := by decide +kernel
theorem dX4_leanOf_18 : decode cX4_leanOf 18 = .ok (.iadd, 1) := by decide +kernel
theorem dX4_leanOf_19 : decode cX4_leanOf 19 = .ok (.iaload, 1) := by decide +kernel
theorem dX4_leanOf_20 : decode cX4_leanOf 20 = .ok (.isub, 1) := by decide +kernel
theorem dX4_leanOf_21 : decode cX4_leanOf 21 = .ok (.iconst 3, 1) := by decide +kernel
theorem dX4_leanOf_22 : decode cX4_leanOf 22 = .ok (.iload_n 3, 1) := by decide +kernel
theorem dX4_leanOf_23 : decode cX4_leanOf 23 = .ok (.iload 4, 2) := by decide +kernel
theorem dX4_leanOf_25 : decode cX4_leanOf 25 = .ok (.isub, 1) := by decide +kernel
theorem dX4_leanOf_26 : decode cX4_leanOf 26 = .ok (.imul, 1) := by decide +kernel
theorem dX4_leanOf_27 : decode cX4_leanOf 27 = .ok (.iadd, 1) := by decide +kernel
theorem dX4_leanOf_28 : decode cX4_leanOf 28 = .ok (.iload_n 2, 1) := by decide +kernel
theorem dX4_leanOf_29 : decode cX4_leanOf 29 = .ok (.isub, 1) := by decide +kernel
theorem dX4_leanOf_30 : decode cX4_leanOf 30 = .ok (.ireturn, 1) := by decide +kernel
def rmX4_leanOf : Room := { frames := 0, cells := 0, slots := 0, locals := 0 }
def wX4_leanOf (M : zM) (o0 : Nat) (x1 : Int32) (x2 : Int32) (x3 : Int32) (x4 : Int32) (Q : Int32 → Prop) : Prop :=
    vp_in x1 12 ∧
    vp_in (x1 + (1 : Int32)) 12 ∧
    ∀ x7 : Int32, x7 = (M ((o0 + 1) + 2) (x1 + (1 : Int32)).toNatClampNeg) →
    ∀ x8 : Int32, x8 = (((M ((o0 + 1) + 2) x1.toNatClampNeg) - x7) + ((3 : Int32) * (x3 - x4))) →
    Q (x8 - x2)
set_option maxHeartbeats 4000000 in
set_option maxRecDepth 100000 in
theorem kX4_leanOf {l : Launch} {D : va_G} {Y : zY} {ad kd : Nat → Nat} {RL : List Nat} {M : zM} {J : zL} {o0 : Nat} {x1 : Int32} {x2 : Int32} {x3 : Int32} {x4 : Int32} (h_o0 : kd o0 = 4) {Q : Int32 → Prop} (hq : wX4_leanOf M o0 x1 x2 x3 x4 Q) : zCi l yX4_leanOf wsX4_leanOf rmX4_leanOf [.ref (ad o0), .int x1, .int x2, .int x3, .int x4] D Y ad kd RL M J (fun r M' J' => Q r ∧ M = M' ∧ J = J') := by
  refine z_meti (cc := cX4_leanOf) (maxL := 5) (ret := (some .int)) (by decide) rfl (Nat.le_of_ble_eq_true rfl) ?_
  intro p e s m below meth c ls A ar QE hQE hx hb hr hml hown hts hlk hw hl
  have hown : s.vm.findClass RX4 = some m.cls := hown
  have hl : lv_has ls 5 [(0, .ref (ad o0)), (1, .int x1), (2, .int x2), (3, .int x3), (4, .int x4)] := hl
  have hC := hw.2.2.2.2.2.1
  have g2 : ∀ w ∈ wsX20, w.before ar s = true := (fun w h => hts w (List.mem_cons_of_mem _ (List.mem_append_right _ h)))
  have g4 : ∀ w ∈ wsX40, w.before ar s = true := (fun w h => hts w (List.mem_cons_of_mem _ (List.mem_append_left _ (List.mem_append_right _ h))))
  have q1 := hts _ (List.mem_of_getElem? (i := 1) rfl)
  have q2 := hts _ (List.mem_of_getElem? (i := 2) rfl)
  unfold wX4_leanOf at hq
  refine lv_aload_n hx hb dX4_leanOf_0 rfl (lv_at hl 0 rfl) ?_
  refine zg4_known hx hb g4 hown hw h_o0 q1 dX4_leanOf_1 ?_
  refine zg2_versines hx hb g2 hown hw (zk_4_1 hC h_o0) q2 dX4_leanOf_4 ?_
  refine lv_iload_n hx hb dX4_leanOf_7 rfl (lv_at hl 1 rfl) ?_
  obtain ⟨hi, hq⟩ := hq
  refine z_iald (n := 12) hx hb hw (zk_2_2 hC (zk_4_1 hC h_o0)) hi dX4_leanOf_8 ?_
  refine lv_aload_n hx hb dX4_leanOf_9 rfl (lv_at hl 0 rfl) ?_
  refine zg4_known hx hb g4 hown hw h_o0 q1 dX4_leanOf_10 ?_
  refine zg2_versines hx hb g2 hown hw (zk_4_1 hC h_o0) q2 dX4_leanOf_13 ?_
  refine lv_iload_n hx hb dX4_leanOf_16 rfl (lv_at hl 1 rfl) ?_
  refine lv_iconst (v := (1 : Int32)) hx hb dX4_leanOf_17 (by decide) ?_
  refine lv_iadd hx hb dX4_leanOf_18 ?_
  obtain ⟨hi, hq⟩ := hq
  refine z_iald (n := 12) hx hb hw (zk_2_2 hC (zk_4_1 hC h_o0)) hi dX4_leanOf_19 ?_
  refine lv_topi (fun x7 e_x7 => ?_)
  have hq := hq x7 e_x7
  refine lv_isub hx hb dX4_leanOf_20 ?_
  refine lv_iconst (v := (3 : Int32)) hx hb dX4_leanOf_21 (by decide) ?_
  refine lv_iload_n hx hb dX4_leanOf_22 rfl (lv_at hl 3 rfl) ?_
  refine lv_iload hx hb dX4_leanOf_23 (lv_at hl 4 rfl) ?_
  refine lv_isub hx hb dX4_leanOf_25 ?_
  refine lv_imul hx hb dX4_leanOf_26 ?_
  refine lv_iadd hx hb dX4_leanOf_27 ?_
  refine lv_topi (fun x8 e_x8 => ?_)
  have hq := hq x8 e_x8
  refine lv_iload_n hx hb dX4_leanOf_28 rfl (lv_at hl 2 rfl) ?_
  refine lv_isub hx hb dX4_leanOf_29 ?_
  exact z_iret hQE hx hb hr hlk hw dX4_leanOf_30 ⟨hq, rfl, rfl⟩
set_option maxRecDepth 20000 in
theorem ggX4_leastFrom_X2_reach : GoodIn wsX4_leastFrom wsX2_reach := goodIn_r _ [12, 13, 14, 15, 16, 17, 5, 18, 44, 45, 46, 47, 48, 49] (by decide +kernel) (by decide +kernel)
set_option maxRecDepth 20000 in
theorem gX4_leastFrom_X2_reach : GoodIn wsX4_leastFrom (wsV RX4 60 RX2 yX2_reach wsX2_reach) := goodIn_app (goodIn_of _ (by decide +kernel)) ggX4_leastFrom_X2_reach
set_option maxRecDepth 20000 in
theorem ggX4_leastFrom_X2_isEased : GoodIn wsX4_leastFrom wsX2_isEased := goodIn_r _ [22, 13, 14, 44, 45, 46, 47, 48, 49] (by decide +kernel) (by decide +kernel)
set_option maxRecDepth 20000 in
theorem gX4_leastFrom_X2_isEased : GoodIn wsX4_leastFrom (wsV RX4 75 RX2 yX2_isEased wsX2_isEased) := goodIn_app (goodIn_of _ (by decide +kernel)) ggX4_leastFrom_X2_isEased
set_option maxRecDepth 20000 in
theorem ggX4_leastFrom_X4_leanOf : GoodIn wsX4_leastFrom wsX4_leanOf := goodIn_r _ [27, 1, 28, 37, 38, 39, 40, 41, 42, 43, 44, 45, 46, 47, 48, 49] (by decide +kernel) (by decide +kernel)
set_option maxRecDepth 20000 in
theorem gX4_leastFrom_X4_leanOf : GoodIn wsX4_leastFrom (wsV RX4 79 RX4 yX4_leanOf wsX4_leanOf) := goodIn_app (goodIn_of _ (by decide +kernel)) ggX4_leastFrom_X4_leanOf
set_option maxRecDepth 20000 in
theorem ggX4_leastFrom_X4_placeOf : GoodIn wsX4_leastFrom wsX4_placeOf := goodIn_r _ [31] (by decide +kernel) (by decide +kernel)
set_option maxRecDepth 20000 in
theorem gX4_leastFrom_X4_placeOf : GoodIn wsX4_leastFrom (va_wsS RX4 68 yX4_placeOf wsX4_placeOf) := goodIn_app (goodIn_of _ (by decide +kernel)) ggX4_leastFrom_X4_placeOf
set_option maxRecDepth 20000 in
theorem ggX4_leastFrom_X4_costOf : GoodIn wsX4_leastFrom wsX4_costOf := goodIn_r _ [35, 36, 2, 37, 38, 39, 40, 41, 42, 43] (by decide +kernel) (by decide +kernel)
set_option maxRecDepth 20000 in
theorem gX4_leastFrom_X4_costOf : GoodIn wsX4_leastFrom (wsV RX4 88 RX4 yX4_costOf wsX4_costOf) := goodIn_app (goodIn_of _ (by decide +kernel)) ggX4_leastFrom_X4_costOf
theorem dX4_leastFrom_0 : decode cX4_leastFrom 0 = .ok (.aload_n 0, 1) := by decide +kernel
theorem dX4_leastFrom_1 : decode cX4_leastFrom 1 = .ok (.getfield 12, 3) := by decide +kernel
theorem dX4_leastFrom_4 : decode cX4_leastFrom 4 = .ok (.iload_n 1, 1) := by decide +kernel
theorem dX4_leastFrom_5 : decode cX4_leastFrom 5 = .ok (.iconst 2, 1) := by decide +kernel
theorem dX4_leastFrom_6 : decode cX4_leastFrom 6 = .ok (.iadd, 1) := by decide +kernel
theorem dX4_leastFrom_7 : decode cX4_leastFrom 7 = .ok (.invokevirtual 60, 3) := by decide +kernel
theorem dX4_leastFrom_10 : decode cX4_leastFrom 10 = .ok (.istore 5, 2) := by decide +kernel
theorem dX4_leastFrom_12 : decode cX4_leastFrom 12 = .ok (.aload_n 0, 1) := by decide +kernel
theorem dX4_leastFrom_13 : decode cX4_leastFrom 13 = .ok (.getfield 12, 3) := by decide +kernel
theorem dX4_leastFrom_16 : decode cX4_leastFrom 16 = .ok (.iload_n 1, 1) := by decide +kernel
theorem dX4_leastFrom_17 : decode cX4_leastFrom 17 = .ok (.invokevirtual 75, 3) := by decide +kernel
theorem dX4_leastFrom_20 : decode cX4_leastFrom 20 = .ok (.istore 6, 2) := by decide +kernel
theorem dX4_leastFrom_22 : decode cX4_leastFrom 22 = .ok (.aload_n 0, 1) := by decide +kernel
theorem dX4_leastFrom_23 : decode cX4_leastFrom 23 = .ok (.iload_n 1, 1) := by decide +kernel
theorem dX4_leastFrom_24 : decode cX4_leastFrom 24 = .ok (.iload_n 2, 1) := by decide +kernel
theorem dX4_leastFrom_25 : decode cX4_leastFrom 25 = .ok (.iload_n 3, 1) := by decide +kernel
theorem dX4_leastFrom_26 : decode cX4_leastFrom 26 = .ok (.iload 4, 2) := by decide +kernel
theorem dX4_leastFrom_28 : decode cX4_leastFrom 28 = .ok (.invokevirtual 79, 3) := by decide +kernel
theorem dX4_leastFrom_31 : decode cX4_leastFrom 31 = .ok (.istore 7, 2) := by decide +kernel
theorem dX4_leastFrom_33 : decode cX4_leastFrom 33 = .ok (.iload_n 1, 1) := by decide +kernel
theorem dX4_leastFrom_34 : decode cX4_leastFrom 34 = .ok (.iconst 1, 1) := by decide +kernel
theorem dX4_leastFrom_35 : decode cX4_leastFrom 35 = .ok (.iadd, 1) := by decide +kernel
theorem dX4_leastFrom_36 : decode cX4_leastFrom 36 = .ok (.iload_n 3, 1) := by decide +kernel
theorem dX4_leastFrom_37 : decode cX4_leastFrom 37 = .ok (.iload 4, 2) := by decide +kernel
theorem dX4_leastFrom_39 : decode cX4_leastFrom 39 = .ok (.iconst 0, 1) := by decide +kernel
theorem dX4_leastFrom_40 : decode cX4_leastFrom 40 = .ok (.invokestatic 68, 3) := by decide +kernel
theorem dX4_leastFrom_43 : decode cX4_leastFrom 43 = .ok (.istore 8, 2) := by decide +kernel
theorem dX4_leastFrom_45 : decode cX4_leastFrom 45 = .ok (.ldc 82, 2) := by decide +kernel
theorem dX4_leastFrom_47 : decode cX4_leastFrom 47 = .ok (.istore 9, 2) := by decide +kernel
theorem dX4_leastFrom_49 : decode cX4_leastFrom 49 = .ok (.iload 5, 2) := by decide +kernel
theorem dX4_leastFrom_51 : decode cX4_leastFrom 51 = .ok (.ineg, 1) := by decide +kernel
theorem dX4_leastFrom_52 : decode cX4_leastFrom 52 = .ok (.istore 10, 2) := by decide +kernel
theorem dX4_leastFrom_54 : decode cX4_leastFrom 54 = .ok (.iload 10, 2) := by decide +kernel
theorem dX4_leastFrom_56 : decode cX4_leastFrom 56 = .ok (.iload 5, 2) := by decide +kernel
theorem dX4_leastFrom_58 : decode cX4_leastFrom 58 = .ok (.if_icmp .gt 55, 3) := by decide +kernel
theorem dX4_leastFrom_61 : decode cX4_leastFrom 61 = .ok (.aload_n 0, 1) := by decide +kernel
theorem dX4_leastFrom_62 : decode cX4_leastFrom 62 = .ok (.iload 6, 2) := by decide +kernel
theorem dX4_leastFrom_64 : decode cX4_leastFrom 64 = .ok (.ifCond .eq 7, 3) := by decide +kernel
theorem dX4_leastFrom_67 : decode cX4_leastFrom 67 = .ok (.iconst 0, 1) := by decide +kernel
theorem dX4_leastFrom_68 : decode cX4_leastFrom 68 = .ok (.goto 11, 3) := by decide +kernel
theorem dX4_leastFrom_71 : decode cX4_leastFrom 71 = .ok (.iload 7, 2) := by decide +kernel
theorem dX4_leastFrom_73 : decode cX4_leastFrom 73 = .ok (.iload 10, 2) := by decide +kernel
theorem dX4_leastFrom_75 : decode cX4_leastFrom 75 = .ok (.iadd, 1) := by decide +kernel
theorem dX4_leastFrom_76 : decode cX4_leastFrom 76 = .ok (.invokestatic 83, 3) := by decide +kernel
theorem dX4_leastFrom_79 : decode cX4_leastFrom 79 = .ok (.iload 10, 2) := by decide +kernel
theorem dX4_leastFrom_81 : decode cX4_leastFrom 81 = .ok (.aload_n 0, 1) := by decide +kernel
theorem dX4_leastFrom_82 : decode cX4_leastFrom 82 = .ok (.getfield 18, 3) := by decide +kernel
theorem dX4_leastFrom_85 : decode cX4_leastFrom 85 = .ok (.iload 8, 2) := by decide +kernel
theorem dX4_leastFrom_87 : decode cX4_leastFrom 87 = .ok (.iload 10, 2) := by decide +kernel
theorem dX4_leastFrom_89 : decode cX4_leastFrom 89 = .ok (.iadd, 1) := by decide +kernel
theorem dX4_leastFrom_90 : decode cX4_leastFrom 90 = .ok (.iaload, 1) := by decide +kernel
theorem dX4_leastFrom_91 : decode cX4_leastFrom 91 = .ok (.invokevirtual 88, 3) := by decide +kernel
theorem dX4_leastFrom_94 : decode cX4_leastFrom 94 = .ok (.istore 11, 2) := by decide +kernel
theorem dX4_leastFrom_96 : decode cX4_leastFrom 96 = .ok (.iload 11, 2) := by decide +kernel
theorem dX4_leastFrom_98 : decode cX4_leastFrom 98 = .ok (.iload 9, 2) := by decide +kernel
theorem dX4_leastFrom_100 : decode cX4_leastFrom 100 = .ok (.if_icmp .ge 7, 3) := by decide +kernel
theorem dX4_leastFrom_103 : decode cX4_leastFrom 103 = .ok (.iload 11, 2) := by decide +kernel
theorem dX4_leastFrom_105 : decode cX4_leastFrom 105 = .ok (.istore 9, 2) := by decide +kernel
theorem dX4_leastFrom_107 : decode cX4_leastFrom 107 = .ok (.iinc 10 1, 3) := by decide +kernel
theorem dX4_leastFrom_110 : decode cX4_leastFrom 110 = .ok (.goto (-56), 3) := by decide +kernel
theorem dX4_leastFrom_113 : decode cX4_leastFrom 113 = .ok (.iload 9, 2) := by decide +kernel
theorem dX4_leastFrom_115 : decode cX4_leastFrom 115 = .ok (.ireturn, 1) := by decide +kernel
def rmX4_leastFrom : Room := { frames := 2, cells := 0, slots := 0, locals := 45 }
def jnX4_leastFrom_79 (M : zM) (o0 : Nat) (r10 : Int32) (x11 : Int32) (x12 : Int32) (B54 : Int32 → Int32 → Prop) (x13 : Int32) : Prop :=
    vp_in (r10 + x12) 4116 ∧
    wX4_costOf M o0 x13 x12 (M (o0 + 6) (r10 + x12).toNatClampNeg) (fun r14 =>
    ((x11 ≤ r14) → (
    ∀ x15 : Int32, x15 = x12 + (1 : Int32) →
    B54 x11 x15)) ∧
    ((¬ x11 ≤ r14) → (
    ∀ x16 : Int32, x16 = x12 + (1 : Int32) →
    B54 r14 x16)))
def lpX4_leastFrom_54 (M : zM) (o0 : Nat) (r7 : Int32) (r8 : Int32) (r9 : Int32) (r10 : Int32) (Q : Int32 → Prop) : Nat → Int32 → Int32 → Prop
  | 0, _, _ => False
  | fu54 + 1, x11, x12 =>
    ((r7 < x12) → (
    Q x11)) ∧
    ((¬ r7 < x12) → (
    ((r8 = 0) → (
    jnX4_leastFrom_79 M o0 r10 x11 x12 (lpX4_leastFrom_54 M o0 r7 r8 r9 r10 Q fu54) (zabs (r9 + x12)))) ∧
    ((¬ r8 = 0) → (
    jnX4_leastFrom_79 M o0 r10 x11 x12 (lpX4_leastFrom_54 M o0 r7 r8 r9 r10 Q fu54) (0 : Int32)))))
def wX4_leastFrom (M : zM) (o0 : Nat) (x1 : Int32) (x2 : Int32) (x3 : Int32) (x4 : Int32) (Q : Int32 → Prop) : Prop :=
    wX2_reach M (o0 + 1) (x1 + (2 : Int32)) (fun r7 =>
    wX2_isEased M (o0 + 1) x1 (fun r8 =>
    wX4_leanOf M o0 x1 x2 x3 x4 (fun r9 =>
    wX4_placeOf M (x1 + (1 : Int32)) x3 x4 (0 : Int32) (fun r10 =>
    ∃ fu54 : Nat, lpX4_leastFrom_54 M o0 r7 r8 r9 r10 Q fu54 (268435456 : Int32) (-r7)))))
set_option maxHeartbeats 4000000 in
set_option maxRecDepth 100000 in
theorem kX4_leastFrom {l : Launch} {D : va_G} {Y : zY} {ad kd : Nat → Nat} {RL : List Nat} {M : zM} {J : zL} {o0 : Nat} {x1 : Int32} {x2 : Int32} {x3 : Int32} {x4 : Int32} (h_o0 : kd o0 = 4) {Q : Int32 → Prop} (hq : wX4_leastFrom M o0 x1 x2 x3 x4 Q) : zCi l yX4_leastFrom wsX4_leastFrom rmX4_leastFrom [.ref (ad o0), .int x1, .int x2, .int x3, .int x4] D Y ad kd RL M J (fun r M' J' => Q r ∧ M = M' ∧ J = J') := by
  refine z_meti (cc := cX4_leastFrom) (maxL := 12) (ret := (some .int)) (by decide) rfl (Nat.le_of_ble_eq_true rfl) ?_
  intro p e s m below meth c ls A ar QE hQE hx hb hr hml hown hts hlk hw hl
  have hown : s.vm.findClass RX4 = some m.cls := hown
  have hl : lv_has ls 12 [(0, .ref (ad o0)), (1, .int x1), (2, .int x2), (3, .int x3), (4, .int x4)] := hl
  have hC := hw.2.2.2.2.2.1
  have g4 : ∀ w ∈ wsX40, w.before ar s = true := (fun w h => hts w (List.mem_cons_of_mem _ (List.mem_append_left _ (List.mem_append_right _ h))))
  have q1 := hts _ (List.mem_of_getElem? (i := 1) rfl)
  have q2 := hts _ (List.mem_of_getElem? (i := 2) rfl)
  have q3 := hts _ (List.mem_of_getElem? (i := 3) rfl)
  have q4 := hts _ (List.mem_of_getElem? (i := 4) rfl)
  have q5 := hts _ (List.mem_of_getElem? (i := 5) rfl)
  have q6 := hts _ (List.mem_of_getElem? (i := 6) rfl)
  have q7 := hts _ (List.mem_of_getElem? (i := 7) rfl)
  unfold wX4_leastFrom at hq
  refine lv_aload_n hx hb dX4_leastFrom_0 rfl (lv_at hl 0 rfl) ?_
  refine zg4_known hx hb g4 hown hw h_o0 q1 dX4_leastFrom_1 ?_
  refine lv_iload_n hx hb dX4_leastFrom_4 rfl (lv_at hl 1 rfl) ?_
  refine lv_iconst (v := (2 : Int32)) hx hb dX4_leastFrom_5 (by decide) ?_
  refine lv_iadd hx hb dX4_leastFrom_6 ?_
  refine z_cvi ⟨hx, hb, hml, hown, hts⟩ hw (zk_4_1 hC h_o0) (kX2_reach (zk_4_1 hC h_o0) hq) (by decide) rfl (cwV 1 hts gX4_leastFrom_X2_reach rfl rfl rfl (by decide +kernel) ⟨Nat.le_of_ble_eq_true rfl, Nat.le_of_ble_eq_true rfl⟩) rfl hl.1 rfl (Nat.le_of_ble_eq_true rfl) dX4_leastFrom_7 ⟨Nat.zero_le _, Nat.zero_le _⟩ (fun r7 M0 J0 H locs hq hw => ?_)
  obtain ⟨hq, rfl, rfl⟩ := hq
  refine lv_istore (lv' := [(5, .int r7), (0, .ref (ad o0)), (1, .int x1), (2, .int x2), (3, .int x3), (4, .int x4)]) hx hb dX4_leastFrom_10 hl (by decide) rfl (fun ls hl => ?_)
  refine lv_aload_n hx hb dX4_leastFrom_12 rfl (lv_at hl 1 rfl) ?_
  refine zg4_known hx hb g4 hown hw h_o0 q1 dX4_leastFrom_13 ?_
  refine lv_iload_n hx hb dX4_leastFrom_16 rfl (lv_at hl 2 rfl) ?_
  refine z_cvi ⟨hx, hb, hml, hown, hts⟩ hw (zk_4_1 hC h_o0) (kX2_isEased (zk_4_1 hC h_o0) hq) (by decide) rfl (cwV 1 hts gX4_leastFrom_X2_isEased rfl rfl rfl (by decide +kernel) ⟨Nat.le_of_ble_eq_true rfl, Nat.le_of_ble_eq_true rfl⟩) rfl hl.1 rfl (Nat.le_of_ble_eq_true rfl) dX4_leastFrom_17 ⟨Nat.zero_le _, Nat.zero_le _⟩ (fun r8 M0 J0 H locs hq hw => ?_)
  obtain ⟨hq, rfl, rfl⟩ := hq
  refine lv_istore (lv' := [(6, .int r8), (5, .int r7), (0, .ref (ad o0)), (1, .int x1), (2, .int x2), (3, .int x3), (4, .int x4)]) hx hb dX4_leastFrom_20 hl (by decide) rfl (fun ls hl => ?_)
  refine lv_aload_n hx hb dX4_leastFrom_22 rfl (lv_at hl 2 rfl) ?_
  refine lv_iload_n hx hb dX4_leastFrom_23 rfl (lv_at hl 3 rfl) ?_
  refine lv_iload_n hx hb dX4_leastFrom_24 rfl (lv_at hl 4 rfl) ?_
  refine lv_iload_n hx hb dX4_leastFrom_25 rfl (lv_at hl 5 rfl) ?_
  refine lv_iload hx hb dX4_leastFrom_26 (lv_at hl 6 rfl) ?_
  refine z_cvi ⟨hx, hb, hml, hown, hts⟩ hw h_o0 (kX4_leanOf h_o0 hq) (by decide) rfl (cwV 4 hts gX4_leastFrom_X4_leanOf rfl rfl rfl (by decide +kernel) ⟨Nat.le_of_ble_eq_true rfl, Nat.le_of_ble_eq_true rfl⟩) rfl hl.1 rfl (Nat.le_of_ble_eq_true rfl) dX4_leastFrom_28 ⟨Nat.zero_le _, Nat.zero_le _⟩ (fun r9 M0 J0 H locs hq hw => ?_)
  obtain ⟨hq, rfl, rfl⟩ := hq
  refine lv_istore (lv' := [(7, .int r9), (6, .int r8), (5, .int r7), (0, .ref (ad o0)), (1, .int x1), (2, .int x2), (3, .int x3), (4, .int x4)]) hx hb dX4_leastFrom_31 hl (by decide) rfl (fun ls hl => ?_)
  refine lv_iload_n hx hb dX4_leastFrom_33 rfl (lv_at hl 4 rfl) ?_
  refine lv_iconst (v := (1 : Int32)) hx hb dX4_leastFrom_34 (by decide) ?_
  refine lv_iadd hx hb dX4_leastFrom_35 ?_
  refine lv_iload_n hx hb dX4_leastFrom_36 rfl (lv_at hl 6 rfl) ?_
  refine lv_iload hx hb dX4_leastFrom_37 (lv_at hl 7 rfl) ?_
  refine lv_iconst (v := (0 : Int32)) hx hb dX4_leastFrom_39 (by decide) ?_
  refine z_csi ⟨hx, hb, hml, hown, hts⟩ hw (kX4_placeOf  hq) (va_cwS 4 hts gX4_leastFrom_X4_placeOf rfl rfl rfl (by decide +kernel) ⟨Nat.le_of_ble_eq_true rfl, Nat.le_of_ble_eq_true rfl⟩) rfl hl.1 rfl (Nat.le_of_ble_eq_true rfl) dX4_leastFrom_40 ⟨Nat.zero_le _, Nat.zero_le _⟩ (fun r10 M0 J0 H locs hq hw => ?_)
  obtain ⟨hq, rfl, rfl⟩ := hq
  refine lv_istore (lv' := [(8, .int r10), (7, .int r9), (6, .int r8), (5, .int r7), (0, .ref (ad o0)), (1, .int x1), (2, .int x2), (3, .int x3), (4, .int x4)]) hx hb dX4_leastFrom_43 hl (by decide) rfl (fun ls hl => ?_)
  refine lv_ldc (v := (268435456 : Int32)) hx hb hown q2 dX4_leastFrom_45 ?_
  refine lv_istore (lv' := [(9, .int (268435456 : Int32)), (8, .int r10), (7, .int r9), (6, .int r8), (5, .int r7), (0, .ref (ad o0)), (1, .int x1), (2, .int x2), (3, .int x3), (4, .int x4)]) hx hb dX4_leastFrom_47 hl (by decide) rfl (fun ls hl => ?_)
  refine lv_iload hx hb dX4_leastFrom_49 (lv_at hl 4 rfl) ?_
  refine lv_ineg hx hb dX4_leastFrom_51 ?_
  refine lv_istore (lv' := [(10, .int (-r7)), (9, .int (268435456 : Int32)), (8, .int r10), (7, .int r9), (6, .int r8), (5, .int r7), (0, .ref (ad o0)), (1, .int x1), (2, .int x2), (3, .int x3), (4, .int x4)]) hx hb dX4_leastFrom_52 hl (by decide) rfl (fun ls hl => ?_)
  obtain ⟨fu54, hq⟩ := hq
  have lp54 : ∀ (fu54 : Nat) (x11 : Int32) (x12 : Int32) (H : Heap) (locs : List Loc) (ls : Array Slot), lpX4_leastFrom_54 M o0 r7 r8 r9 r10 Q fu54 x11 x12 → zH D Y ad kd RL M J A s.heap H locs s → lv_has ls 12 [(0, .ref (ad o0)), (5, .int r7), (6, .int r8), (7, .int r9), (8, .int r10), (9, .int x11), (10, .int x12)] → W p l e rmX4_leastFrom s m ar below meth c H locs 0 0 QE (F0 m 54 ls []) := by
    intro fu54
    induction fu54 with
    | zero => intro x11 x12 H locs ls hq; exact hq.elim
    | succ fu54 ih54 =>
      intro x11 x12 H locs ls hq hw hl
      unfold lpX4_leastFrom_54 at hq
      refine lv_iload hx hb dX4_leastFrom_54 (lv_at hl 6 rfl) ?_
      refine lv_iload hx hb dX4_leastFrom_56 (lv_at hl 1 rfl) ?_
      refine lv_icmp_gt (tgt := 113) hx hb dX4_leastFrom_58 (by decide) (fun hc => ?_) (fun hc => ?_)
      · have hq := hq.1 hc
        refine lv_iload hx hb dX4_leastFrom_113 (lv_at hl 5 rfl) ?_
        exact z_iret hQE hx hb hr hlk hw dX4_leastFrom_115 ⟨hq, rfl, rfl⟩
      · have hq := hq.2 hc
        refine lv_aload_n hx hb dX4_leastFrom_61 rfl (lv_at hl 0 rfl) ?_
        refine lv_iload hx hb dX4_leastFrom_62 (lv_at hl 2 rfl) ?_
        have jn79 : ∀ (x13 : Int32) (H : Heap) (locs : List Loc) (ls : Array Slot), jnX4_leastFrom_79 M o0 r10 x11 x12 (lpX4_leastFrom_54 M o0 r7 r8 r9 r10 Q fu54) x13 → zH D Y ad kd RL M J A s.heap H locs s → lv_has ls 12 [(0, .ref (ad o0)), (5, .int r7), (6, .int r8), (7, .int r9), (8, .int r10), (9, .int x11), (10, .int x12)] → W p l e rmX4_leastFrom s m ar below meth c H locs 0 0 QE (F0 m 79 ls [.int x13, .ref (ad o0)]) := by
          intro x13 H locs ls hq hw hl
          unfold jnX4_leastFrom_79 at hq
          refine lv_iload hx hb dX4_leastFrom_79 (lv_at hl 6 rfl) ?_
          refine lv_aload_n hx hb dX4_leastFrom_81 rfl (lv_at hl 0 rfl) ?_
          refine zg4_table hx hb g4 hown hw h_o0 q7 dX4_leastFrom_82 ?_
          refine lv_iload hx hb dX4_leastFrom_85 (lv_at hl 4 rfl) ?_
          refine lv_iload hx hb dX4_leastFrom_87 (lv_at hl 6 rfl) ?_
          refine lv_iadd hx hb dX4_leastFrom_89 ?_
          obtain ⟨hi, hq⟩ := hq
          refine z_iald (n := 4116) hx hb hw (zk_4_6 hC h_o0) hi dX4_leastFrom_90 ?_
          refine z_cvi ⟨hx, hb, hml, hown, hts⟩ hw h_o0 (kX4_costOf h_o0 hq) (by decide) rfl (cwV 3 hts gX4_leastFrom_X4_costOf rfl rfl rfl (by decide +kernel) ⟨Nat.le_of_ble_eq_true rfl, Nat.le_of_ble_eq_true rfl⟩) rfl hl.1 rfl (Nat.le_of_ble_eq_true rfl) dX4_leastFrom_91 ⟨Nat.zero_le _, Nat.zero_le _⟩ (fun r14 M0 J0 H locs hq hw => ?_)
          obtain ⟨hq, rfl, rfl⟩ := hq
          refine lv_istore (lv' := [(11, .int r14), (0, .ref (ad o0)), (5, .int r7), (6, .int r8), (7, .int r9), (8, .int r10), (9, .int x11), (10, .int x12)]) hx hb dX4_leastFrom_94 hl (by decide) rfl (fun ls hl => ?_)
          refine lv_iload hx hb dX4_leastFrom_96 (lv_at hl 0 rfl) ?_
          refine lv_iload hx hb dX4_leastFrom_98 (lv_at hl 6 rfl) ?_
          refine lv_icmp_ge (tgt := 107) hx hb dX4_leastFrom_100 (by decide) (fun hc => ?_) (fun hc => ?_)
          · have hq := hq.1 hc
            obtain ⟨x15, e_x15⟩ : ∃ y : Int32, y = x12 + (1 : Int32) := ⟨_, rfl⟩
            have hq := hq x15 e_x15
            refine lv_iinc (v := x15) (lv' := [(10, .int x15), (11, .int r14), (0, .ref (ad o0)), (5, .int r7), (6, .int r8), (7, .int r9), (8, .int r10), (9, .int x11)]) hx hb dX4_leastFrom_107 hl (k := 7) rfl (by rw [e_x15]; rfl) (by decide) rfl (fun ls hl => ?_)
            refine lv_goto (tgt := 54) hx hb dX4_leastFrom_110 (by decide) ?_
            exact ih54 x11 x15 _ _ _ hq hw (lv_sub hl [2, 3, 4, 5, 6, 7, 0] rfl)
          · have hq := hq.2 hc
            refine lv_iload hx hb dX4_leastFrom_103 (lv_at hl 0 rfl) ?_
            refine lv_istore (lv' := [(9, .int r14), (11, .int r14), (0, .ref (ad o0)), (5, .int r7), (6, .int r8), (7, .int r9), (8, .int r10), (10, .int x12)]) hx hb dX4_leastFrom_105 hl (by decide) rfl (fun ls hl => ?_)
            obtain ⟨x16, e_x16⟩ : ∃ y : Int32, y = x12 + (1 : Int32) := ⟨_, rfl⟩
            have hq := hq x16 e_x16
            refine lv_iinc (v := x16) (lv' := [(10, .int x16), (9, .int r14), (11, .int r14), (0, .ref (ad o0)), (5, .int r7), (6, .int r8), (7, .int r9), (8, .int r10)]) hx hb dX4_leastFrom_107 hl (k := 7) rfl (by rw [e_x16]; rfl) (by decide) rfl (fun ls hl => ?_)
            refine lv_goto (tgt := 54) hx hb dX4_leastFrom_110 (by decide) ?_
            exact ih54 r14 x16 _ _ _ hq hw (lv_sub hl [3, 4, 5, 6, 7, 1, 0] rfl)
        refine lv_if_eq (tgt := 71) hx hb dX4_leastFrom_64 (by decide) (fun hc => ?_) (fun hc => ?_)
        · have hq := hq.1 hc
          refine lv_iload hx hb dX4_leastFrom_71 (lv_at hl 3 rfl) ?_
          refine lv_iload hx hb dX4_leastFrom_73 (lv_at hl 6 rfl) ?_
          refine lv_iadd hx hb dX4_leastFrom_75 ?_
          refine va_mabs hx hb (hml.trans hl.1.symm) hown q3 q4 q5 q6 (Nat.le_of_ble_eq_true rfl) (Nat.le_of_ble_eq_true rfl) (Nat.zero_le _) (Nat.zero_le _) dX4_leastFrom_76 ?_
          exact jn79 (zabs (r9 + x12)) _ _ _ hq hw (lv_sub hl [0, 1, 2, 3, 4, 5, 6] rfl)
        · have hq := hq.2 hc
          refine lv_iconst (v := (0 : Int32)) hx hb dX4_leastFrom_67 (by decide) ?_
          refine lv_goto (tgt := 79) hx hb dX4_leastFrom_68 (by decide) ?_
          exact jn79 (0 : Int32) _ _ _ hq hw (lv_sub hl [0, 1, 2, 3, 4, 5, 6] rfl)
  exact lp54 fu54 (268435456 : Int32) (-r7) _ _ _ hq hw (lv_sub hl [6, 5, 4, 3, 2, 1, 0] rfl)
set_option maxRecDepth 20000 in
theorem ggX4_fillChoices_X4_placeOf : GoodIn wsX4_fillChoices wsX4_placeOf := goodIn_r _ [5] (by decide +kernel) (by decide +kernel)
set_option maxRecDepth 20000 in
theorem gX4_fillChoices_X4_placeOf : GoodIn wsX4_fillChoices (va_wsS RX4 68 yX4_placeOf wsX4_placeOf) := goodIn_app (goodIn_of _ (by decide +kernel)) ggX4_fillChoices_X4_placeOf
set_option maxRecDepth 20000 in
theorem ggX4_fillChoices_X4_leastFrom : GoodIn wsX4_fillChoices wsX4_leastFrom := goodIn_r _ [9, 10, 11, 12, 13, 14, 15, 1, 16, 17, 18, 19, 20, 21, 22, 23, 24, 25, 26, 27, 28, 29, 30, 31, 32, 33, 4, 34, 35, 2, 3, 5, 36, 37, 38, 39, 40, 41, 42, 43, 44, 45, 46, 47, 48, 49, 50, 51, 52, 53] (by decide +kernel) (by decide +kernel)
set_option maxRecDepth 20000 in
theorem gX4_fillChoices_X4_leastFrom : GoodIn wsX4_fillChoices (wsV RX4 72 RX4 yX4_leastFrom wsX4_leastFrom) := goodIn_app (goodIn_of _ (by decide +kernel)) ggX4_fillChoices_X4_leastFrom
theorem dX4_fillChoices_0 : decode cX4_fillChoices 0 = .ok (.iload_n 2, 1) := by decide +kernel
theorem dX4_fillChoices_1 : decode cX4_fillChoices 1 = .ok (.ineg, 1) := by decide +kernel
theorem dX4_fillChoices_2 : decode cX4_fillChoices 2 = .ok (.istore 5, 2) := by decide +kernel
theorem dX4_fillChoices_4 : decode cX4_fillChoices 4 = .ok (.iload 5, 2) := by decide +kernel
theorem dX4_fillChoices_6 : decode cX4_fillChoices 6 = .ok (.iload_n 2, 1) := by decide +kernel
theorem dX4_fillChoices_7 : decode cX4_fillChoices 7 = .ok (.if_icmp .gt 69, 3) := by decide +kernel
theorem dX4_fillChoices_10 : decode cX4_fillChoices 10 = .ok (.iload_n 3, 1) := by decide +kernel
theorem dX4_fillChoices_11 : decode cX4_fillChoices 11 = .ok (.ineg, 1) := by decide +kernel
theorem dX4_fillChoices_12 : decode cX4_fillChoices 12 = .ok (.istore 6, 2) := by decide +kernel
theorem dX4_fillChoices_14 : decode cX4_fillChoices 14 = .ok (.iload 6, 2) := by decide +kernel
theorem dX4_fillChoices_16 : decode cX4_fillChoices 16 = .ok (.iload_n 3, 1) := by decide +kernel
theorem dX4_fillChoices_17 : decode cX4_fillChoices 17 = .ok (.if_icmp .gt 53, 3) := by decide +kernel
theorem dX4_fillChoices_20 : decode cX4_fillChoices 20 = .ok (.iload 4, 2) := by decide +kernel
theorem dX4_fillChoices_22 : decode cX4_fillChoices 22 = .ok (.ineg, 1) := by decide +kernel
theorem dX4_fillChoices_23 : decode cX4_fillChoices 23 = .ok (.istore 7, 2) := by decide +kernel
theorem dX4_fillChoices_25 : decode cX4_fillChoices 25 = .ok (.iload 7, 2) := by decide +kernel
theorem dX4_fillChoices_27 : decode cX4_fillChoices 27 = .ok (.iload 4, 2) := by decide +kernel
theorem dX4_fillChoices_29 : decode cX4_fillChoices 29 = .ok (.if_icmp .gt 35, 3) := by decide +kernel
theorem dX4_fillChoices_32 : decode cX4_fillChoices 32 = .ok (.aload_n 0, 1) := by decide +kernel
theorem dX4_fillChoices_33 : decode cX4_fillChoices 33 = .ok (.getfield 18, 3) := by decide +kernel
theorem dX4_fillChoices_36 : decode cX4_fillChoices 36 = .ok (.iload_n 1, 1) := by decide +kernel
theorem dX4_fillChoices_37 : decode cX4_fillChoices 37 = .ok (.iload 5, 2) := by decide +kernel
theorem dX4_fillChoices_39 : decode cX4_fillChoices 39 = .ok (.iload 6, 2) := by decide +kernel
theorem dX4_fillChoices_41 : decode cX4_fillChoices 41 = .ok (.iload 7, 2) := by decide +kernel
theorem dX4_fillChoices_43 : decode cX4_fillChoices 43 = .ok (.invokestatic 68, 3) := by decide +kernel
theorem dX4_fillChoices_46 : decode cX4_fillChoices 46 = .ok (.aload_n 0, 1) := by decide +kernel
theorem dX4_fillChoices_47 : decode cX4_fillChoices 47 = .ok (.iload_n 1, 1) := by decide +kernel
theorem dX4_fillChoices_48 : decode cX4_fillChoices 48 = .ok (.iload 5, 2) := by decide +kernel
theorem dX4_fillChoices_50 : decode cX4_fillChoices 50 = .ok (.iload 6, 2) := by decide +kernel
theorem dX4_fillChoices_52 : decode cX4_fillChoices 52 = .ok (.iload 7, 2) := by decide +kernel
theorem dX4_fillChoices_54 : decode cX4_fillChoices 54 = .ok (.invokevirtual 72, 3) := by decide +kernel
theorem dX4_fillChoices_57 : decode cX4_fillChoices 57 = .ok (.iastore, 1) := by decide +kernel
theorem dX4_fillChoices_58 : decode cX4_fillChoices 58 = .ok (.iinc 7 1, 3) := by decide +kernel
theorem dX4_fillChoices_61 : decode cX4_fillChoices 61 = .ok (.goto (-36), 3) := by decide +kernel
theorem dX4_fillChoices_64 : decode cX4_fillChoices 64 = .ok (.iinc 6 1, 3) := by decide +kernel
theorem dX4_fillChoices_67 : decode cX4_fillChoices 67 = .ok (.goto (-53), 3) := by decide +kernel
theorem dX4_fillChoices_70 : decode cX4_fillChoices 70 = .ok (.iinc 5 1, 3) := by decide +kernel
theorem dX4_fillChoices_73 : decode cX4_fillChoices 73 = .ok (.goto (-69), 3) := by decide +kernel
theorem dX4_fillChoices_76 : decode cX4_fillChoices 76 = .ok (.return_, 1) := by decide +kernel
def rmX4_fillChoices : Room := { frames := 3, cells := 0, slots := 0, locals := 76 }
def lpX4_fillChoices_25 (o0 : Nat) (x1 : Int32) (x4 : Int32) (x7 : Int32) (x9 : Int32) (K25_64 : Int32 → zM → Prop) : Nat → Int32 → zM → Prop
  | 0, _, _ => False
  | fu25 + 1, x14, M15 =>
    ((x4 < x14) → (
    K25_64 x14 M15)) ∧
    ((¬ x4 < x14) → (
    wX4_placeOf M15 x1 x7 x9 x14 (fun r19 =>
    wX4_leastFrom M15 o0 x1 x7 x9 x14 (fun r20 =>
    vp_in r19 4116 ∧
    ∀ M21 : zM, M21 = va_up M15 (o0 + 6) (upd (M15 (o0 + 6)) r19.toNatClampNeg r20) →
    ∀ x22 : Int32, x22 = x14 + (1 : Int32) →
    lpX4_fillChoices_25 o0 x1 x4 x7 x9 K25_64 fu25 x22 M21))))
def lpX4_fillChoices_14 (o0 : Nat) (x1 : Int32) (x3 : Int32) (x4 : Int32) (x7 : Int32) (K14_70 : Int32 → zM → Prop) : Nat → Int32 → zM → Prop
  | 0, _, _ => False
  | fu14 + 1, x9, M10 =>
    ((x3 < x9) → (
    K14_70 x9 M10)) ∧
    ((¬ x3 < x9) → (
    ∃ fu25 : Nat, lpX4_fillChoices_25 o0 x1 x4 x7 x9 (fun x16 M17 =>
    ∀ x18 : Int32, x18 = x9 + (1 : Int32) →
    lpX4_fillChoices_14 o0 x1 x3 x4 x7 K14_70 fu14 x18 M17) fu25 (-x4) M10))
def lpX4_fillChoices_4 (o0 : Nat) (x1 : Int32) (x2 : Int32) (x3 : Int32) (x4 : Int32) (Q : zM → Prop) : Nat → Int32 → zM → Prop
  | 0, _, _ => False
  | fu4 + 1, x7, M8 =>
    ((x2 < x7) → (
    Q M8)) ∧
    ((¬ x2 < x7) → (
    ∃ fu14 : Nat, lpX4_fillChoices_14 o0 x1 x3 x4 x7 (fun x11 M12 =>
    ∀ x13 : Int32, x13 = x7 + (1 : Int32) →
    lpX4_fillChoices_4 o0 x1 x2 x3 x4 Q fu4 x13 M12) fu14 (-x3) M8))
def wX4_fillChoices (M : zM) (o0 : Nat) (x1 : Int32) (x2 : Int32) (x3 : Int32) (x4 : Int32) (Q : zM → Prop) : Prop :=
    ∃ fu4 : Nat, lpX4_fillChoices_4 o0 x1 x2 x3 x4 Q fu4 (-x2) M
set_option maxHeartbeats 4000000 in
set_option maxRecDepth 100000 in
theorem kX4_fillChoices {l : Launch} {D : va_G} {Y : zY} {ad kd : Nat → Nat} {RL : List Nat} {M : zM} {J : zL} {o0 : Nat} {x1 : Int32} {x2 : Int32} {x3 : Int32} {x4 : Int32} (h_o0 : kd o0 = 4) {Q : zM → Prop} (hq : wX4_fillChoices M o0 x1 x2 x3 x4 Q) : zCv l yX4_fillChoices wsX4_fillChoices rmX4_fillChoices [.ref (ad o0), .int x1, .int x2, .int x3, .int x4] D Y ad kd RL M J (fun M' J' => Q M' ∧ J = J') := by
  refine z_metv (cc := cX4_fillChoices) (maxL := 8) (ret := none) (by decide) rfl (Nat.le_of_ble_eq_true rfl) ?_
  intro p e s m below meth c ls A ar QE hQE hx hb hr hml hown hts hlk hw hl
  have hown : s.vm.findClass RX4 = some m.cls := hown
  have hl : lv_has ls 8 [(0, .ref (ad o0)), (1, .int x1), (2, .int x2), (3, .int x3), (4, .int x4)] := hl
  have hC := hw.2.2.2.2.2.1
  have g4 : ∀ w ∈ wsX40, w.before ar s = true := (fun w h => hts w (List.mem_cons_of_mem _ (List.mem_append_left _ (List.mem_append_right _ h))))
  have q1 := hts _ (List.mem_of_getElem? (i := 1) rfl)
  unfold wX4_fillChoices at hq
  refine lv_iload_n hx hb dX4_fillChoices_0 rfl (lv_at hl 2 rfl) ?_
  refine lv_ineg hx hb dX4_fillChoices_1 ?_
  refine lv_istore (lv' := [(5, .int (-x2)), (0, .ref (ad o0)), (1, .int x1), (2, .int x2), (3, .int x3), (4, .int x4)]) hx hb dX4_fillChoices_2 hl (by decide) rfl (fun ls hl => ?_)
  obtain ⟨fu4, hq⟩ := hq
  have lp4 : ∀ (fu4 : Nat) (x7 : Int32) (M8 : zM) (H : Heap) (locs : List Loc) (ls : Array Slot), lpX4_fillChoices_4 o0 x1 x2 x3 x4 Q fu4 x7 M8 → zH D Y ad kd RL M8 J A s.heap H locs s → lv_has ls 8 [(0, .ref (ad o0)), (1, .int x1), (2, .int x2), (3, .int x3), (4, .int x4), (5, .int x7)] → W p l e rmX4_fillChoices s m ar below meth c H locs 0 0 QE (F0 m 4 ls []) := by
    intro fu4
    induction fu4 with
    | zero => intro x7 M8 H locs ls hq; exact hq.elim
    | succ fu4 ih4 =>
      intro x7 M8 H locs ls hq hw hl
      unfold lpX4_fillChoices_4 at hq
      refine lv_iload hx hb dX4_fillChoices_4 (lv_at hl 5 rfl) ?_
      refine lv_iload_n hx hb dX4_fillChoices_6 rfl (lv_at hl 2 rfl) ?_
      refine lv_icmp_gt (tgt := 76) hx hb dX4_fillChoices_7 (by decide) (fun hc => ?_) (fun hc => ?_)
      · have hq := hq.1 hc
        exact z_vret hQE hx hb hr hlk hw dX4_fillChoices_76 ⟨hq, rfl⟩
      · have hq := hq.2 hc
        refine lv_iload_n hx hb dX4_fillChoices_10 rfl (lv_at hl 3 rfl) ?_
        refine lv_ineg hx hb dX4_fillChoices_11 ?_
        refine lv_istore (lv' := [(6, .int (-x3)), (0, .ref (ad o0)), (1, .int x1), (2, .int x2), (3, .int x3), (4, .int x4), (5, .int x7)]) hx hb dX4_fillChoices_12 hl (by decide) rfl (fun ls hl => ?_)
        have ex14_70 : ∀ (x11 : Int32) (M12 : zM) (H : Heap) (locs : List Loc) (ls : Array Slot), (∀ x13 : Int32, x13 = x7 + (1 : Int32) → lpX4_fillChoices_4 o0 x1 x2 x3 x4 Q fu4 x13 M12) → zH D Y ad kd RL M12 J A s.heap H locs s → lv_has ls 8 [(0, .ref (ad o0)), (1, .int x1), (2, .int x2), (3, .int x3), (4, .int x4), (5, .int x7)] → W p l e rmX4_fillChoices s m ar below meth c H locs 0 0 QE (F0 m 70 ls []) := by
          intro x11 M12 H locs ls hq hw hl
          obtain ⟨x13, e_x13⟩ : ∃ y : Int32, y = x7 + (1 : Int32) := ⟨_, rfl⟩
          have hq := hq x13 e_x13
          refine lv_iinc (v := x13) (lv' := [(5, .int x13), (0, .ref (ad o0)), (1, .int x1), (2, .int x2), (3, .int x3), (4, .int x4)]) hx hb dX4_fillChoices_70 hl (k := 5) rfl (by rw [e_x13]; rfl) (by decide) rfl (fun ls hl => ?_)
          refine lv_goto (tgt := 4) hx hb dX4_fillChoices_73 (by decide) ?_
          exact ih4 x13 M12 _ _ _ hq hw (lv_sub hl [1, 2, 3, 4, 5, 0] rfl)
        obtain ⟨fu14, hq⟩ := hq
        have lp14 : ∀ (fu14 : Nat) (x9 : Int32) (M10 : zM) (H : Heap) (locs : List Loc) (ls : Array Slot), lpX4_fillChoices_14 o0 x1 x3 x4 x7 (fun x11 M12 => ∀ x13 : Int32, x13 = x7 + (1 : Int32) → lpX4_fillChoices_4 o0 x1 x2 x3 x4 Q fu4 x13 M12) fu14 x9 M10 → zH D Y ad kd RL M10 J A s.heap H locs s → lv_has ls 8 [(0, .ref (ad o0)), (1, .int x1), (2, .int x2), (3, .int x3), (4, .int x4), (5, .int x7), (6, .int x9)] → W p l e rmX4_fillChoices s m ar below meth c H locs 0 0 QE (F0 m 14 ls []) := by
          intro fu14
          induction fu14 with
          | zero => intro x9 M10 H locs ls hq; exact hq.elim
          | succ fu14 ih14 =>
            intro x9 M10 H locs ls hq hw hl
            unfold lpX4_fillChoices_14 at hq
            refine lv_iload hx hb dX4_fillChoices_14 (lv_at hl 6 rfl) ?_
            refine lv_iload_n hx hb dX4_fillChoices_16 rfl (lv_at hl 3 rfl) ?_
            refine lv_icmp_gt (tgt := 70) hx hb dX4_fillChoices_17 (by decide) (fun hc => ?_) (fun hc => ?_)
            · have hq := hq.1 hc
              exact ex14_70 x9 M10 _ _ _ hq hw (lv_sub hl [0, 1, 2, 3, 4, 5] rfl)
            · have hq := hq.2 hc
              refine lv_iload hx hb dX4_fillChoices_20 (lv_at hl 4 rfl) ?_
              refine lv_ineg hx hb dX4_fillChoices_22 ?_
              refine lv_istore (lv' := [(7, .int (-x4)), (0, .ref (ad o0)), (1, .int x1), (2, .int x2), (3, .int x3), (4, .int x4), (5, .int x7), (6, .int x9)]) hx hb dX4_fillChoices_23 hl (by decide) rfl (fun ls hl => ?_)
              have ex25_64 : ∀ (x16 : Int32) (M17 : zM) (H : Heap) (locs : List Loc) (ls : Array Slot), (∀ x18 : Int32, x18 = x9 + (1 : Int32) → lpX4_fillChoices_14 o0 x1 x3 x4 x7 (fun x11 M12 => ∀ x13 : Int32, x13 = x7 + (1 : Int32) → lpX4_fillChoices_4 o0 x1 x2 x3 x4 Q fu4 x13 M12) fu14 x18 M17) → zH D Y ad kd RL M17 J A s.heap H locs s → lv_has ls 8 [(0, .ref (ad o0)), (1, .int x1), (2, .int x2), (3, .int x3), (4, .int x4), (5, .int x7), (6, .int x9)] → W p l e rmX4_fillChoices s m ar below meth c H locs 0 0 QE (F0 m 64 ls []) := by
                intro x16 M17 H locs ls hq hw hl
                obtain ⟨x18, e_x18⟩ : ∃ y : Int32, y = x9 + (1 : Int32) := ⟨_, rfl⟩
                have hq := hq x18 e_x18
                refine lv_iinc (v := x18) (lv' := [(6, .int x18), (0, .ref (ad o0)), (1, .int x1), (2, .int x2), (3, .int x3), (4, .int x4), (5, .int x7)]) hx hb dX4_fillChoices_64 hl (k := 6) rfl (by rw [e_x18]; rfl) (by decide) rfl (fun ls hl => ?_)
                refine lv_goto (tgt := 14) hx hb dX4_fillChoices_67 (by decide) ?_
                exact ih14 x18 M17 _ _ _ hq hw (lv_sub hl [1, 2, 3, 4, 5, 6, 0] rfl)
              obtain ⟨fu25, hq⟩ := hq
              have lp25 : ∀ (fu25 : Nat) (x14 : Int32) (M15 : zM) (H : Heap) (locs : List Loc) (ls : Array Slot), lpX4_fillChoices_25 o0 x1 x4 x7 x9 (fun x16 M17 => ∀ x18 : Int32, x18 = x9 + (1 : Int32) → lpX4_fillChoices_14 o0 x1 x3 x4 x7 (fun x11 M12 => ∀ x13 : Int32, x13 = x7 + (1 : Int32) → lpX4_fillChoices_4 o0 x1 x2 x3 x4 Q fu4 x13 M12) fu14 x18 M17) fu25 x14 M15 → zH D Y ad kd RL M15 J A s.heap H locs s → lv_has ls 8 [(0, .ref (ad o0)), (1, .int x1), (2, .int x2), (3, .int x3), (4, .int x4), (5, .int x7), (6, .int x9), (7, .int x14)] → W p l e rmX4_fillChoices s m ar below meth c H locs 0 0 QE (F0 m 25 ls []) := by
                intro fu25
                induction fu25 with
                | zero => intro x14 M15 H locs ls hq; exact hq.elim
                | succ fu25 ih25 =>
                  intro x14 M15 H locs ls hq hw hl
                  unfold lpX4_fillChoices_25 at hq
                  refine lv_iload hx hb dX4_fillChoices_25 (lv_at hl 7 rfl) ?_
                  refine lv_iload hx hb dX4_fillChoices_27 (lv_at hl 4 rfl) ?_
                  refine lv_icmp_gt (tgt := 64) hx hb dX4_fillChoices_29 (by decide) (fun hc => ?_) (fun hc => ?_)
                  · have hq := hq.1 hc
                    exact ex25_64 x14 M15 _ _ _ hq hw (lv_sub hl [0, 1, 2, 3, 4, 5, 6] rfl)
                  · have hq := hq.2 hc
                    refine lv_aload_n hx hb dX4_fillChoices_32 rfl (lv_at hl 0 rfl) ?_
                    refine zg4_table hx hb g4 hown hw h_o0 q1 dX4_fillChoices_33 ?_
                    refine lv_iload_n hx hb dX4_fillChoices_36 rfl (lv_at hl 1 rfl) ?_
                    refine lv_iload hx hb dX4_fillChoices_37 (lv_at hl 5 rfl) ?_
                    refine lv_iload hx hb dX4_fillChoices_39 (lv_at hl 6 rfl) ?_
                    refine lv_iload hx hb dX4_fillChoices_41 (lv_at hl 7 rfl) ?_
                    refine z_csi ⟨hx, hb, hml, hown, hts⟩ hw (kX4_placeOf  hq) (va_cwS 4 hts gX4_fillChoices_X4_placeOf rfl rfl rfl (by decide +kernel) ⟨Nat.le_of_ble_eq_true rfl, Nat.le_of_ble_eq_true rfl⟩) rfl hl.1 rfl (Nat.le_of_ble_eq_true rfl) dX4_fillChoices_43 ⟨Nat.zero_le _, Nat.zero_le _⟩ (fun r19 M0 J0 H locs hq hw => ?_)
                    obtain ⟨hq, rfl, rfl⟩ := hq
                    refine lv_aload_n hx hb dX4_fillChoices_46 rfl (lv_at hl 0 rfl) ?_
                    refine lv_iload_n hx hb dX4_fillChoices_47 rfl (lv_at hl 1 rfl) ?_
                    refine lv_iload hx hb dX4_fillChoices_48 (lv_at hl 5 rfl) ?_
                    refine lv_iload hx hb dX4_fillChoices_50 (lv_at hl 6 rfl) ?_
                    refine lv_iload hx hb dX4_fillChoices_52 (lv_at hl 7 rfl) ?_
                    refine z_cvi ⟨hx, hb, hml, hown, hts⟩ hw h_o0 (kX4_leastFrom h_o0 hq) (by decide) rfl (cwV 4 hts gX4_fillChoices_X4_leastFrom rfl rfl rfl (by decide +kernel) ⟨Nat.le_of_ble_eq_true rfl, Nat.le_of_ble_eq_true rfl⟩) rfl hl.1 rfl (Nat.le_of_ble_eq_true rfl) dX4_fillChoices_54 ⟨Nat.zero_le _, Nat.zero_le _⟩ (fun r20 M0 J0 H locs hq hw => ?_)
                    obtain ⟨hq, rfl, rfl⟩ := hq
                    obtain ⟨hi, hq⟩ := hq
                    refine z_iast (n := 4116) hx hb hw (zk_4_6 hC h_o0) hi dX4_fillChoices_57 (fun H locs hw => ?_)
                    obtain ⟨M21, e_M21⟩ : ∃ y : zM, y = va_up M15 (o0 + 6) (upd (M15 (o0 + 6)) r19.toNatClampNeg r20) := ⟨_, rfl⟩
                    rw [← e_M21] at hw
                    have hq := hq M21 e_M21
                    obtain ⟨x22, e_x22⟩ : ∃ y : Int32, y = x14 + (1 : Int32) := ⟨_, rfl⟩
                    have hq := hq x22 e_x22
                    refine lv_iinc (v := x22) (lv' := [(7, .int x22), (0, .ref (ad o0)), (1, .int x1), (2, .int x2), (3, .int x3), (4, .int x4), (5, .int x7), (6, .int x9)]) hx hb dX4_fillChoices_58 hl (k := 7) rfl (by rw [e_x22]; rfl) (by decide) rfl (fun ls hl => ?_)
                    refine lv_goto (tgt := 25) hx hb dX4_fillChoices_61 (by decide) ?_
                    exact ih25 x22 M21 _ _ _ hq hw (lv_sub hl [1, 2, 3, 4, 5, 6, 7, 0] rfl)
              exact lp25 fu25 (-x4) M10 _ _ _ hq hw (lv_sub hl [1, 2, 3, 4, 5, 6, 7, 0] rfl)
        exact lp14 fu14 (-x3) M8 _ _ _ hq hw (lv_sub hl [1, 2, 3, 4, 5, 6, 0] rfl)
  exact lp4 fu4 (-x2) M _ _ _ hq hw (lv_sub hl [1, 2, 3, 4, 5, 0] rfl)
set_option maxRecDepth 20000 in
theorem ggX4_fillTable_X2_reach : GoodIn wsX4_fillTable wsX2_reach := goodIn_r _ [8, 9, 10, 11, 12, 13, 14, 15, 53, 54, 55, 56, 57, 58] (by decide +kernel) (by decide +kernel)
set_option maxRecDepth 20000 in
theorem gX4_fillTable_X2_reach : GoodIn wsX4_fillTable (wsV RX4 60 RX2 yX2_reach wsX2_reach) := goodIn_app (goodIn_of _ (by decide +kernel)) ggX4_fillTable_X2_reach
set_option maxRecDepth 20000 in
theorem ggX4_fillTable_X4_fillChoices : GoodIn wsX4_fillTable wsX4_fillChoices := goodIn_r _ [20, 3, 21, 22, 19, 23, 24, 25, 26, 27, 1, 28, 29, 30, 14, 31, 4, 5, 6, 7, 8, 9, 10, 11, 12, 13, 15, 32, 33, 34, 35, 36, 37, 38, 39, 40, 41, 42, 43, 44, 45, 46, 47, 48, 49, 50, 51, 52, 53, 54, 55, 56, 57, 58] (by decide +kernel) (by decide +kernel)
set_option maxRecDepth 20000 in
theorem gX4_fillTable_X4_fillChoices : GoodIn wsX4_fillTable (wsV RX4 64 RX4 yX4_fillChoices wsX4_fillChoices) := goodIn_app (goodIn_of _ (by decide +kernel)) ggX4_fillTable_X4_fillChoices
theorem dX4_fillTable_0 : decode cX4_fillTable 0 = .ok (.aload_n 0, 1) := by decide +kernel
theorem dX4_fillTable_1 : decode cX4_fillTable 1 = .ok (.getfield 12, 3) := by decide +kernel
theorem dX4_fillTable_4 : decode cX4_fillTable 4 = .ok (.getfield 57, 3) := by decide +kernel
theorem dX4_fillTable_7 : decode cX4_fillTable 7 = .ok (.iconst 1, 1) := by decide +kernel
theorem dX4_fillTable_8 : decode cX4_fillTable 8 = .ok (.isub, 1) := by decide +kernel
theorem dX4_fillTable_9 : decode cX4_fillTable 9 = .ok (.istore_n 1, 1) := by decide +kernel
theorem dX4_fillTable_10 : decode cX4_fillTable 10 = .ok (.iconst 0, 1) := by decide +kernel
theorem dX4_fillTable_11 : decode cX4_fillTable 11 = .ok (.istore_n 2, 1) := by decide +kernel
theorem dX4_fillTable_12 : decode cX4_fillTable 12 = .ok (.iload_n 2, 1) := by decide +kernel
theorem dX4_fillTable_13 : decode cX4_fillTable 13 = .ok (.sipush 343, 3) := by decide +kernel
theorem dX4_fillTable_16 : decode cX4_fillTable 16 = .ok (.if_icmp .ge 22, 3) := by decide +kernel
theorem dX4_fillTable_19 : decode cX4_fillTable 19 = .ok (.aload_n 0, 1) := by decide +kernel
theorem dX4_fillTable_20 : decode cX4_fillTable 20 = .ok (.getfield 18, 3) := by decide +kernel
theorem dX4_fillTable_23 : decode cX4_fillTable 23 = .ok (.iload_n 1, 1) := by decide +kernel
theorem dX4_fillTable_24 : decode cX4_fillTable 24 = .ok (.sipush 343, 3) := by decide +kernel
theorem dX4_fillTable_27 : decode cX4_fillTable 27 = .ok (.imul, 1) := by decide +kernel
theorem dX4_fillTable_28 : decode cX4_fillTable 28 = .ok (.iload_n 2, 1) := by decide +kernel
theorem dX4_fillTable_29 : decode cX4_fillTable 29 = .ok (.iadd, 1) := by decide +kernel
theorem dX4_fillTable_30 : decode cX4_fillTable 30 = .ok (.iconst 0, 1) := by decide +kernel
theorem dX4_fillTable_31 : decode cX4_fillTable 31 = .ok (.iastore, 1) := by decide +kernel
theorem dX4_fillTable_32 : decode cX4_fillTable 32 = .ok (.iinc 2 1, 3) := by decide +kernel
theorem dX4_fillTable_35 : decode cX4_fillTable 35 = .ok (.goto (-23), 3) := by decide +kernel
theorem dX4_fillTable_38 : decode cX4_fillTable 38 = .ok (.iload_n 1, 1) := by decide +kernel
theorem dX4_fillTable_39 : decode cX4_fillTable 39 = .ok (.iconst 1, 1) := by decide +kernel
theorem dX4_fillTable_40 : decode cX4_fillTable 40 = .ok (.isub, 1) := by decide +kernel
theorem dX4_fillTable_41 : decode cX4_fillTable 41 = .ok (.istore_n 2, 1) := by decide +kernel
theorem dX4_fillTable_42 : decode cX4_fillTable 42 = .ok (.iload_n 2, 1) := by decide +kernel
theorem dX4_fillTable_43 : decode cX4_fillTable 43 = .ok (.ifCond .lt 42, 3) := by decide +kernel
theorem dX4_fillTable_46 : decode cX4_fillTable 46 = .ok (.aload_n 0, 1) := by decide +kernel
theorem dX4_fillTable_47 : decode cX4_fillTable 47 = .ok (.iload_n 2, 1) := by decide +kernel
theorem dX4_fillTable_48 : decode cX4_fillTable 48 = .ok (.aload_n 0, 1) := by decide +kernel
theorem dX4_fillTable_49 : decode cX4_fillTable 49 = .ok (.getfield 12, 3) := by decide +kernel
theorem dX4_fillTable_52 : decode cX4_fillTable 52 = .ok (.iload_n 2, 1) := by decide +kernel
theorem dX4_fillTable_53 : decode cX4_fillTable 53 = .ok (.iconst 1, 1) := by decide +kernel
theorem dX4_fillTable_54 : decode cX4_fillTable 54 = .ok (.isub, 1) := by decide +kernel
theorem dX4_fillTable_55 : decode cX4_fillTable 55 = .ok (.invokevirtual 60, 3) := by decide +kernel
theorem dX4_fillTable_58 : decode cX4_fillTable 58 = .ok (.aload_n 0, 1) := by decide +kernel
theorem dX4_fillTable_59 : decode cX4_fillTable 59 = .ok (.getfield 12, 3) := by decide +kernel
theorem dX4_fillTable_62 : decode cX4_fillTable 62 = .ok (.iload_n 2, 1) := by decide +kernel
theorem dX4_fillTable_63 : decode cX4_fillTable 63 = .ok (.invokevirtual 60, 3) := by decide +kernel
theorem dX4_fillTable_66 : decode cX4_fillTable 66 = .ok (.aload_n 0, 1) := by decide +kernel
theorem dX4_fillTable_67 : decode cX4_fillTable 67 = .ok (.getfield 12, 3) := by decide +kernel
theorem dX4_fillTable_70 : decode cX4_fillTable 70 = .ok (.iload_n 2, 1) := by decide +kernel
theorem dX4_fillTable_71 : decode cX4_fillTable 71 = .ok (.iconst 1, 1) := by decide +kernel
theorem dX4_fillTable_72 : decode cX4_fillTable 72 = .ok (.iadd, 1) := by decide +kernel
theorem dX4_fillTable_73 : decode cX4_fillTable 73 = .ok (.invokevirtual 60, 3) := by decide +kernel
theorem dX4_fillTable_76 : decode cX4_fillTable 76 = .ok (.invokevirtual 64, 3) := by decide +kernel
theorem dX4_fillTable_79 : decode cX4_fillTable 79 = .ok (.iinc 2 (-1), 3) := by decide +kernel
theorem dX4_fillTable_82 : decode cX4_fillTable 82 = .ok (.goto (-40), 3) := by decide +kernel
theorem dX4_fillTable_85 : decode cX4_fillTable 85 = .ok (.return_, 1) := by decide +kernel
def rmX4_fillTable : Room := { frames := 4, cells := 0, slots := 0, locals := 103 }
def lpX4_fillTable_42 (o0 : Nat) (Q : zM → Prop) : Nat → Int32 → zM → Prop
  | 0, _, _ => False
  | fu42 + 1, x7, M8 =>
    ((x7 < 0) → (
    Q M8)) ∧
    ((¬ x7 < 0) → (
    wX2_reach M8 (o0 + 1) (x7 - (1 : Int32)) (fun r9 =>
    wX2_reach M8 (o0 + 1) x7 (fun r10 =>
    wX2_reach M8 (o0 + 1) (x7 + (1 : Int32)) (fun r11 =>
    wX4_fillChoices M8 o0 x7 r9 r10 r11 (fun M12 =>
    ∀ x13 : Int32, x13 = x7 + (-1 : Int32) →
    lpX4_fillTable_42 o0 Q fu42 x13 M12))))))
def lpX4_fillTable_12 (M : zM) (o0 : Nat) (K12_38 : Int32 → zM → Prop) : Nat → Int32 → zM → Prop
  | 0, _, _ => False
  | fu12 + 1, x3, M4 =>
    (((343 : Int32) ≤ x3) → (
    K12_38 x3 M4)) ∧
    ((¬ (343 : Int32) ≤ x3) → (
    ∀ x14 : Int32, x14 = (((M (o0 + 1) 0) - (1 : Int32)) * (343 : Int32)) →
    vp_in (x14 + x3) 4116 ∧
    ∀ M15 : zM, M15 = va_up M4 (o0 + 6) (upd (M4 (o0 + 6)) (x14 + x3).toNatClampNeg (0 : Int32)) →
    ∀ x16 : Int32, x16 = x3 + (1 : Int32) →
    lpX4_fillTable_12 M o0 K12_38 fu12 x16 M15))
def wX4_fillTable (M : zM) (o0 : Nat) (Q : zM → Prop) : Prop :=
    ∃ fu12 : Nat, lpX4_fillTable_12 M o0 (fun x5 M6 =>
    ∃ fu42 : Nat, lpX4_fillTable_42 o0 Q fu42 (((M (o0 + 1) 0) - (1 : Int32)) - (1 : Int32)) M6) fu12 (0 : Int32) M
set_option maxHeartbeats 4000000 in
set_option maxRecDepth 100000 in
theorem kX4_fillTable {l : Launch} {D : va_G} {Y : zY} {ad kd : Nat → Nat} {RL : List Nat} {M : zM} {J : zL} {o0 : Nat} (h_o0 : kd o0 = 4) {Q : zM → Prop} (hq : wX4_fillTable M o0 Q) : zCv l yX4_fillTable wsX4_fillTable rmX4_fillTable [.ref (ad o0)] D Y ad kd RL M J (fun M' J' => Q M' ∧ J = J') := by
  refine z_metv (cc := cX4_fillTable) (maxL := 3) (ret := none) (by decide) rfl (Nat.le_of_ble_eq_true rfl) ?_
  intro p e s m below meth c ls A ar QE hQE hx hb hr hml hown hts hlk hw hl
  have hown : s.vm.findClass RX4 = some m.cls := hown
  have hl : lv_has ls 3 [(0, .ref (ad o0))] := hl
  have hC := hw.2.2.2.2.2.1
  have g2 : ∀ w ∈ wsX20, w.before ar s = true := (fun w h => hts w (List.mem_cons_of_mem _ (List.mem_append_right _ h)))
  have g4 : ∀ w ∈ wsX40, w.before ar s = true := (fun w h => hts w (List.mem_cons_of_mem _ (List.mem_append_left _ (List.mem_append_right _ h))))
  have q1 := hts _ (List.mem_of_getElem? (i := 1) rfl)
  have q2 := hts _ (List.mem_of_getElem? (i := 2) rfl)
  have q3 := hts _ (List.mem_of_getElem? (i := 3) rfl)
  unfold wX4_fillTable at hq
  refine lv_aload_n hx hb dX4_fillTable_0 rfl (lv_at hl 0 rfl) ?_
  refine zg4_known hx hb g4 hown hw h_o0 q1 dX4_fillTable_1 ?_
  refine zg2_pegs hx hb g2 hown hw (zk_4_1 hC h_o0) q2 dX4_fillTable_4 ?_
  refine lv_iconst (v := (1 : Int32)) hx hb dX4_fillTable_7 (by decide) ?_
  refine lv_isub hx hb dX4_fillTable_8 ?_
  refine lv_istore_n (lv' := [(1, .int ((M (o0 + 1) 0) - (1 : Int32))), (0, .ref (ad o0))]) hx hb dX4_fillTable_9 rfl hl (by decide) rfl (fun ls hl => ?_)
  refine lv_iconst (v := (0 : Int32)) hx hb dX4_fillTable_10 (by decide) ?_
  refine lv_istore_n (lv' := [(2, .int (0 : Int32)), (1, .int ((M (o0 + 1) 0) - (1 : Int32))), (0, .ref (ad o0))]) hx hb dX4_fillTable_11 rfl hl (by decide) rfl (fun ls hl => ?_)
  have ex12_38 : ∀ (x5 : Int32) (M6 : zM) (H : Heap) (locs : List Loc) (ls : Array Slot), (∃ fu42 : Nat, lpX4_fillTable_42 o0 Q fu42 (((M (o0 + 1) 0) - (1 : Int32)) - (1 : Int32)) M6) → zH D Y ad kd RL M6 J A s.heap H locs s → lv_has ls 3 [(0, .ref (ad o0)), (1, .int ((M (o0 + 1) 0) - (1 : Int32)))] → W p l e rmX4_fillTable s m ar below meth c H locs 0 0 QE (F0 m 38 ls []) := by
    intro x5 M6 H locs ls hq hw hl
    refine lv_iload_n hx hb dX4_fillTable_38 rfl (lv_at hl 1 rfl) ?_
    refine lv_iconst (v := (1 : Int32)) hx hb dX4_fillTable_39 (by decide) ?_
    refine lv_isub hx hb dX4_fillTable_40 ?_
    refine lv_istore_n (lv' := [(2, .int (((M (o0 + 1) 0) - (1 : Int32)) - (1 : Int32))), (0, .ref (ad o0)), (1, .int ((M (o0 + 1) 0) - (1 : Int32)))]) hx hb dX4_fillTable_41 rfl hl (by decide) rfl (fun ls hl => ?_)
    obtain ⟨fu42, hq⟩ := hq
    have lp42 : ∀ (fu42 : Nat) (x7 : Int32) (M8 : zM) (H : Heap) (locs : List Loc) (ls : Array Slot), lpX4_fillTable_42 o0 Q fu42 x7 M8 → zH D Y ad kd RL M8 J A s.heap H locs s → lv_has ls 3 [(0, .ref (ad o0)), (2, .int x7)] → W p l e rmX4_fillTable s m ar below meth c H locs 0 0 QE (F0 m 42 ls []) := by
      intro fu42
      induction fu42 with
      | zero => intro x7 M8 H locs ls hq; exact hq.elim
      | succ fu42 ih42 =>
        intro x7 M8 H locs ls hq hw hl
        unfold lpX4_fillTable_42 at hq
        refine lv_iload_n hx hb dX4_fillTable_42 rfl (lv_at hl 1 rfl) ?_
        refine lv_if_lt (tgt := 85) hx hb dX4_fillTable_43 (by decide) (fun hc => ?_) (fun hc => ?_)
        · have hq := hq.1 hc
          exact z_vret hQE hx hb hr hlk hw dX4_fillTable_85 ⟨hq, rfl⟩
        · have hq := hq.2 hc
          refine lv_aload_n hx hb dX4_fillTable_46 rfl (lv_at hl 0 rfl) ?_
          refine lv_iload_n hx hb dX4_fillTable_47 rfl (lv_at hl 1 rfl) ?_
          refine lv_aload_n hx hb dX4_fillTable_48 rfl (lv_at hl 0 rfl) ?_
          refine zg4_known hx hb g4 hown hw h_o0 q1 dX4_fillTable_49 ?_
          refine lv_iload_n hx hb dX4_fillTable_52 rfl (lv_at hl 1 rfl) ?_
          refine lv_iconst (v := (1 : Int32)) hx hb dX4_fillTable_53 (by decide) ?_
          refine lv_isub hx hb dX4_fillTable_54 ?_
          refine z_cvi ⟨hx, hb, hml, hown, hts⟩ hw (zk_4_1 hC h_o0) (kX2_reach (zk_4_1 hC h_o0) hq) (by decide) rfl (cwV 1 hts gX4_fillTable_X2_reach rfl rfl rfl (by decide +kernel) ⟨Nat.le_of_ble_eq_true rfl, Nat.le_of_ble_eq_true rfl⟩) rfl hl.1 rfl (Nat.le_of_ble_eq_true rfl) dX4_fillTable_55 ⟨Nat.zero_le _, Nat.zero_le _⟩ (fun r9 M0 J0 H locs hq hw => ?_)
          obtain ⟨hq, rfl, rfl⟩ := hq
          refine lv_aload_n hx hb dX4_fillTable_58 rfl (lv_at hl 0 rfl) ?_
          refine zg4_known hx hb g4 hown hw h_o0 q1 dX4_fillTable_59 ?_
          refine lv_iload_n hx hb dX4_fillTable_62 rfl (lv_at hl 1 rfl) ?_
          refine z_cvi ⟨hx, hb, hml, hown, hts⟩ hw (zk_4_1 hC h_o0) (kX2_reach (zk_4_1 hC h_o0) hq) (by decide) rfl (cwV 1 hts gX4_fillTable_X2_reach rfl rfl rfl (by decide +kernel) ⟨Nat.le_of_ble_eq_true rfl, Nat.le_of_ble_eq_true rfl⟩) rfl hl.1 rfl (Nat.le_of_ble_eq_true rfl) dX4_fillTable_63 ⟨Nat.zero_le _, Nat.zero_le _⟩ (fun r10 M0 J0 H locs hq hw => ?_)
          obtain ⟨hq, rfl, rfl⟩ := hq
          refine lv_aload_n hx hb dX4_fillTable_66 rfl (lv_at hl 0 rfl) ?_
          refine zg4_known hx hb g4 hown hw h_o0 q1 dX4_fillTable_67 ?_
          refine lv_iload_n hx hb dX4_fillTable_70 rfl (lv_at hl 1 rfl) ?_
          refine lv_iconst (v := (1 : Int32)) hx hb dX4_fillTable_71 (by decide) ?_
          refine lv_iadd hx hb dX4_fillTable_72 ?_
          refine z_cvi ⟨hx, hb, hml, hown, hts⟩ hw (zk_4_1 hC h_o0) (kX2_reach (zk_4_1 hC h_o0) hq) (by decide) rfl (cwV 1 hts gX4_fillTable_X2_reach rfl rfl rfl (by decide +kernel) ⟨Nat.le_of_ble_eq_true rfl, Nat.le_of_ble_eq_true rfl⟩) rfl hl.1 rfl (Nat.le_of_ble_eq_true rfl) dX4_fillTable_73 ⟨Nat.zero_le _, Nat.zero_le _⟩ (fun r11 M0 J0 H locs hq hw => ?_)
          obtain ⟨hq, rfl, rfl⟩ := hq
          refine z_cvv ⟨hx, hb, hml, hown, hts⟩ hw h_o0 (kX4_fillChoices h_o0 hq) (by decide) rfl (cwV 4 hts gX4_fillTable_X4_fillChoices rfl rfl rfl (by decide +kernel) ⟨Nat.le_of_ble_eq_true rfl, Nat.le_of_ble_eq_true rfl⟩) rfl hl.1 rfl (Nat.le_of_ble_eq_true rfl) dX4_fillTable_76 ⟨Nat.zero_le _, Nat.zero_le _⟩ (fun M12 J0 H locs hq hw => ?_)
          obtain ⟨hq, rfl⟩ := hq
          obtain ⟨x13, e_x13⟩ : ∃ y : Int32, y = x7 + (-1 : Int32) := ⟨_, rfl⟩
          have hq := hq x13 e_x13
          refine lv_iinc (v := x13) (lv' := [(2, .int x13), (0, .ref (ad o0))]) hx hb dX4_fillTable_79 hl (k := 1) rfl (by rw [e_x13]; rfl) (by decide) rfl (fun ls hl => ?_)
          refine lv_goto (tgt := 42) hx hb dX4_fillTable_82 (by decide) ?_
          exact ih42 x13 M12 _ _ _ hq hw (lv_sub hl [1, 0] rfl)
    exact lp42 fu42 (((M (o0 + 1) 0) - (1 : Int32)) - (1 : Int32)) M6 _ _ _ hq hw (lv_sub hl [1, 0] rfl)
  obtain ⟨fu12, hq⟩ := hq
  have lp12 : ∀ (fu12 : Nat) (x3 : Int32) (M4 : zM) (H : Heap) (locs : List Loc) (ls : Array Slot), lpX4_fillTable_12 M o0 (fun x5 M6 => ∃ fu42 : Nat, lpX4_fillTable_42 o0 Q fu42 (((M (o0 + 1) 0) - (1 : Int32)) - (1 : Int32)) M6) fu12 x3 M4 → zH D Y ad kd RL M4 J A s.heap H locs s → lv_has ls 3 [(0, .ref (ad o0)), (1, .int ((M (o0 + 1) 0) - (1 : Int32))), (2, .int x3)] → W p l e rmX4_fillTable s m ar below meth c H locs 0 0 QE (F0 m 12 ls []) := by
    intro fu12
    induction fu12 with
    | zero => intro x3 M4 H locs ls hq; exact hq.elim
    | succ fu12 ih12 =>
      intro x3 M4 H locs ls hq hw hl
      unfold lpX4_fillTable_12 at hq
      refine lv_iload_n hx hb dX4_fillTable_12 rfl (lv_at hl 2 rfl) ?_
      refine lv_sipush (v := (343 : Int32)) hx hb dX4_fillTable_13 (by decide) ?_
      refine lv_icmp_ge (tgt := 38) hx hb dX4_fillTable_16 (by decide) (fun hc => ?_) (fun hc => ?_)
      · have hq := hq.1 hc
        exact ex12_38 x3 M4 _ _ _ hq hw (lv_sub hl [0, 1] rfl)
      · have hq := hq.2 hc
        refine lv_aload_n hx hb dX4_fillTable_19 rfl (lv_at hl 0 rfl) ?_
        refine zg4_table hx hb g4 hown hw h_o0 q3 dX4_fillTable_20 ?_
        refine lv_iload_n hx hb dX4_fillTable_23 rfl (lv_at hl 1 rfl) ?_
        refine lv_sipush (v := (343 : Int32)) hx hb dX4_fillTable_24 (by decide) ?_
        refine lv_imul hx hb dX4_fillTable_27 ?_
        refine lv_topi (fun x14 e_x14 => ?_)
        have hq := hq x14 e_x14
        refine lv_iload_n hx hb dX4_fillTable_28 rfl (lv_at hl 2 rfl) ?_
        refine lv_iadd hx hb dX4_fillTable_29 ?_
        refine lv_iconst (v := (0 : Int32)) hx hb dX4_fillTable_30 (by decide) ?_
        obtain ⟨hi, hq⟩ := hq
        refine z_iast (n := 4116) hx hb hw (zk_4_6 hC h_o0) hi dX4_fillTable_31 (fun H locs hw => ?_)
        obtain ⟨M15, e_M15⟩ : ∃ y : zM, y = va_up M4 (o0 + 6) (upd (M4 (o0 + 6)) (x14 + x3).toNatClampNeg (0 : Int32)) := ⟨_, rfl⟩
        rw [← e_M15] at hw
        have hq := hq M15 e_M15
        obtain ⟨x16, e_x16⟩ : ∃ y : Int32, y = x3 + (1 : Int32) := ⟨_, rfl⟩
        have hq := hq x16 e_x16
        refine lv_iinc (v := x16) (lv' := [(2, .int x16), (0, .ref (ad o0)), (1, .int ((M (o0 + 1) 0) - (1 : Int32)))]) hx hb dX4_fillTable_32 hl (k := 2) rfl (by rw [e_x16]; rfl) (by decide) rfl (fun ls hl => ?_)
        refine lv_goto (tgt := 12) hx hb dX4_fillTable_35 (by decide) ?_
        exact ih12 x16 M15 _ _ _ hq hw (lv_sub hl [1, 2, 0] rfl)
  exact lp12 fu12 (0 : Int32) M _ _ _ hq hw (lv_sub hl [2, 1, 0] rfl)
set_option maxRecDepth 20000 in
theorem ggX4_pickFirst_X2_reach : GoodIn wsX4_pickFirst wsX2_reach := goodIn_r _ [7, 8, 9, 10, 11, 12, 13, 14, 35, 36, 37, 38, 39, 40] (by decide +kernel) (by decide +kernel)
set_option maxRecDepth 20000 in
theorem gX4_pickFirst_X2_reach : GoodIn wsX4_pickFirst (wsV RX4 60 RX2 yX2_reach wsX2_reach) := goodIn_app (goodIn_of _ (by decide +kernel)) ggX4_pickFirst_X2_reach
set_option maxRecDepth 20000 in
theorem ggX4_pickFirst_X4_costOfFirst : GoodIn wsX4_pickFirst wsX4_costOfFirst := goodIn_r _ [19, 20, 21, 22, 23, 13, 24, 25, 26, 18, 27, 28, 29, 30, 31, 32, 33, 34] (by decide +kernel) (by decide +kernel)
set_option maxRecDepth 20000 in
theorem gX4_pickFirst_X4_costOfFirst : GoodIn wsX4_pickFirst (wsV RX4 95 RX4 yX4_costOfFirst wsX4_costOfFirst) := goodIn_app (goodIn_of _ (by decide +kernel)) ggX4_pickFirst_X4_costOfFirst
theorem dX4_pickFirst_0 : decode cX4_pickFirst 0 = .ok (.aload_n 0, 1) := by decide +kernel
theorem dX4_pickFirst_1 : decode cX4_pickFirst 1 = .ok (.getfield 12, 3) := by decide +kernel
theorem dX4_pickFirst_4 : decode cX4_pickFirst 4 = .ok (.iconst 0, 1) := by decide +kernel
theorem dX4_pickFirst_5 : decode cX4_pickFirst 5 = .ok (.invokevirtual 60, 3) := by decide +kernel
theorem dX4_pickFirst_8 : decode cX4_pickFirst 8 = .ok (.istore_n 2, 1) := by decide +kernel
theorem dX4_pickFirst_9 : decode cX4_pickFirst 9 = .ok (.aload_n 0, 1) := by decide +kernel
theorem dX4_pickFirst_10 : decode cX4_pickFirst 10 = .ok (.getfield 12, 3) := by decide +kernel
theorem dX4_pickFirst_13 : decode cX4_pickFirst 13 = .ok (.iconst 1, 1) := by decide +kernel
theorem dX4_pickFirst_14 : decode cX4_pickFirst 14 = .ok (.invokevirtual 60, 3) := by decide +kernel
theorem dX4_pickFirst_17 : decode cX4_pickFirst 17 = .ok (.istore_n 3, 1) := by decide +kernel
theorem dX4_pickFirst_18 : decode cX4_pickFirst 18 = .ok (.iload_n 2, 1) := by decide +kernel
theorem dX4_pickFirst_19 : decode cX4_pickFirst 19 = .ok (.ineg, 1) := by decide +kernel
theorem dX4_pickFirst_20 : decode cX4_pickFirst 20 = .ok (.istore 4, 2) := by decide +kernel
theorem dX4_pickFirst_22 : decode cX4_pickFirst 22 = .ok (.iload 4, 2) := by decide +kernel
theorem dX4_pickFirst_24 : decode cX4_pickFirst 24 = .ok (.iload_n 2, 1) := by decide +kernel
theorem dX4_pickFirst_25 : decode cX4_pickFirst 25 = .ok (.if_icmp .gt 54, 3) := by decide +kernel
theorem dX4_pickFirst_28 : decode cX4_pickFirst 28 = .ok (.iload_n 3, 1) := by decide +kernel
theorem dX4_pickFirst_29 : decode cX4_pickFirst 29 = .ok (.ineg, 1) := by decide +kernel
theorem dX4_pickFirst_30 : decode cX4_pickFirst 30 = .ok (.istore 5, 2) := by decide +kernel
theorem dX4_pickFirst_32 : decode cX4_pickFirst 32 = .ok (.iload 5, 2) := by decide +kernel
theorem dX4_pickFirst_34 : decode cX4_pickFirst 34 = .ok (.iload_n 3, 1) := by decide +kernel
theorem dX4_pickFirst_35 : decode cX4_pickFirst 35 = .ok (.if_icmp .gt 38, 3) := by decide +kernel
theorem dX4_pickFirst_38 : decode cX4_pickFirst 38 = .ok (.aload_n 0, 1) := by decide +kernel
theorem dX4_pickFirst_39 : decode cX4_pickFirst 39 = .ok (.iload 4, 2) := by decide +kernel
theorem dX4_pickFirst_41 : decode cX4_pickFirst 41 = .ok (.iload 5, 2) := by decide +kernel
theorem dX4_pickFirst_43 : decode cX4_pickFirst 43 = .ok (.invokevirtual 95, 3) := by decide +kernel
theorem dX4_pickFirst_46 : decode cX4_pickFirst 46 = .ok (.iload_n 1, 1) := by decide +kernel
theorem dX4_pickFirst_47 : decode cX4_pickFirst 47 = .ok (.if_icmp .ne 20, 3) := by decide +kernel
theorem dX4_pickFirst_50 : decode cX4_pickFirst 50 = .ok (.aload_n 0, 1) := by decide +kernel
theorem dX4_pickFirst_51 : decode cX4_pickFirst 51 = .ok (.getfield 22, 3) := by decide +kernel
theorem dX4_pickFirst_54 : decode cX4_pickFirst 54 = .ok (.iconst 0, 1) := by decide +kernel
theorem dX4_pickFirst_55 : decode cX4_pickFirst 55 = .ok (.iload 4, 2) := by decide +kernel
theorem dX4_pickFirst_57 : decode cX4_pickFirst 57 = .ok (.iastore, 1) := by decide +kernel
theorem dX4_pickFirst_58 : decode cX4_pickFirst 58 = .ok (.aload_n 0, 1) := by decide +kernel
theorem dX4_pickFirst_59 : decode cX4_pickFirst 59 = .ok (.getfield 22, 3) := by decide +kernel
theorem dX4_pickFirst_62 : decode cX4_pickFirst 62 = .ok (.iconst 1, 1) := by decide +kernel
theorem dX4_pickFirst_63 : decode cX4_pickFirst 63 = .ok (.iload 5, 2) := by decide +kernel
theorem dX4_pickFirst_65 : decode cX4_pickFirst 65 = .ok (.iastore, 1) := by decide +kernel
theorem dX4_pickFirst_66 : decode cX4_pickFirst 66 = .ok (.return_, 1) := by decide +kernel
theorem dX4_pickFirst_67 : decode cX4_pickFirst 67 = .ok (.iinc 5 1, 3) := by decide +kernel
theorem dX4_pickFirst_70 : decode cX4_pickFirst 70 = .ok (.goto (-38), 3) := by decide +kernel
theorem dX4_pickFirst_73 : decode cX4_pickFirst 73 = .ok (.iinc 4 1, 3) := by decide +kernel
theorem dX4_pickFirst_76 : decode cX4_pickFirst 76 = .ok (.goto (-54), 3) := by decide +kernel
theorem dX4_pickFirst_79 : decode cX4_pickFirst 79 = .ok (.return_, 1) := by decide +kernel
def rmX4_pickFirst : Room := { frames := 2, cells := 0, slots := 0, locals := 47 }
def lpX4_pickFirst_32 (M : zM) (o0 : Nat) (x1 : Int32) (r5 : Int32) (x6 : Int32) (K32_73 : Int32 → Prop) (K32_50 : Int32 → Prop) : Nat → Int32 → Prop
  | 0, _ => False
  | fu32 + 1, x11 =>
    ((r5 < x11) → (
    K32_73 x11)) ∧
    ((¬ r5 < x11) → (
    wX4_costOfFirst M o0 x6 x11 (fun r15 =>
    ((¬ r15 = x1) → (
    ∀ x16 : Int32, x16 = x11 + (1 : Int32) →
    lpX4_pickFirst_32 M o0 x1 r5 x6 K32_73 K32_50 fu32 x16)) ∧
    ((r15 = x1) → (
    K32_50 x11)))))
def lpX4_pickFirst_22 (M : zM) (o0 : Nat) (x1 : Int32) (r4 : Int32) (r5 : Int32) (Q : zM → Prop) (K22_50 : Int32 → Int32 → Prop) : Nat → Int32 → Prop
  | 0, _ => False
  | fu22 + 1, x6 =>
    ((r4 < x6) → (
    Q M)) ∧
    ((¬ r4 < x6) → (
    ∃ fu32 : Nat, lpX4_pickFirst_32 M o0 x1 r5 x6 (fun x12 =>
    ∀ x13 : Int32, x13 = x6 + (1 : Int32) →
    lpX4_pickFirst_22 M o0 x1 r4 r5 Q K22_50 fu22 x13) (fun x14 =>
    K22_50 x6 x14) fu32 (-r5)))
def wX4_pickFirst (M : zM) (o0 : Nat) (x1 : Int32) (Q : zM → Prop) : Prop :=
    wX2_reach M (o0 + 1) (0 : Int32) (fun r4 =>
    wX2_reach M (o0 + 1) (1 : Int32) (fun r5 =>
    ∃ fu22 : Nat, lpX4_pickFirst_22 M o0 x1 r4 r5 Q (fun x7 x8 =>
    ∀ M9 : zM, M9 = va_up M (o0 + 7) (upd (M (o0 + 7)) (0 : Int32).toNatClampNeg x7) →
    ∀ M10 : zM, M10 = va_up M9 (o0 + 7) (upd (M9 (o0 + 7)) (1 : Int32).toNatClampNeg x8) →
    Q M10) fu22 (-r4)))
set_option maxHeartbeats 4000000 in
set_option maxRecDepth 100000 in
theorem kX4_pickFirst {l : Launch} {D : va_G} {Y : zY} {ad kd : Nat → Nat} {RL : List Nat} {M : zM} {J : zL} {o0 : Nat} {x1 : Int32} (h_o0 : kd o0 = 4) {Q : zM → Prop} (hq : wX4_pickFirst M o0 x1 Q) : zCv l yX4_pickFirst wsX4_pickFirst rmX4_pickFirst [.ref (ad o0), .int x1] D Y ad kd RL M J (fun M' J' => Q M' ∧ J = J') := by
  refine z_metv (cc := cX4_pickFirst) (maxL := 6) (ret := none) (by decide) rfl (Nat.le_of_ble_eq_true rfl) ?_
  intro p e s m below meth c ls A ar QE hQE hx hb hr hml hown hts hlk hw hl
  have hown : s.vm.findClass RX4 = some m.cls := hown
  have hl : lv_has ls 6 [(0, .ref (ad o0)), (1, .int x1)] := hl
  have hC := hw.2.2.2.2.2.1
  have g4 : ∀ w ∈ wsX40, w.before ar s = true := (fun w h => hts w (List.mem_cons_of_mem _ (List.mem_append_left _ (List.mem_append_right _ h))))
  have q1 := hts _ (List.mem_of_getElem? (i := 1) rfl)
  have q2 := hts _ (List.mem_of_getElem? (i := 2) rfl)
  unfold wX4_pickFirst at hq
  refine lv_aload_n hx hb dX4_pickFirst_0 rfl (lv_at hl 0 rfl) ?_
  refine zg4_known hx hb g4 hown hw h_o0 q1 dX4_pickFirst_1 ?_
  refine lv_iconst (v := (0 : Int32)) hx hb dX4_pickFirst_4 (by decide) ?_
  refine z_cvi ⟨hx, hb, hml, hown, hts⟩ hw (zk_4_1 hC h_o0) (kX2_reach (zk_4_1 hC h_o0) hq) (by decide) rfl (cwV 1 hts gX4_pickFirst_X2_reach rfl rfl rfl (by decide +kernel) ⟨Nat.le_of_ble_eq_true rfl, Nat.le_of_ble_eq_true rfl⟩) rfl hl.1 rfl (Nat.le_of_ble_eq_true rfl) dX4_pickFirst_5 ⟨Nat.zero_le _, Nat.zero_le _⟩ (fun r4 M0 J0 H locs hq hw => ?_)
  obtain ⟨hq, rfl, rfl⟩ := hq
  refine lv_istore_n (lv' := [(2, .int r4), (0, .ref (ad o0)), (1, .int x1)]) hx hb dX4_pickFirst_8 rfl hl (by decide) rfl (fun ls hl => ?_)
  refine lv_aload_n hx hb dX4_pickFirst_9 rfl (lv_at hl 1 rfl) ?_
  refine zg4_known hx hb g4 hown hw h_o0 q1 dX4_pickFirst_10 ?_
  refine lv_iconst (v := (1 : Int32)) hx hb dX4_pickFirst_13 (by decide) ?_
  refine z_cvi ⟨hx, hb, hml, hown, hts⟩ hw (zk_4_1 hC h_o0) (kX2_reach (zk_4_1 hC h_o0) hq) (by decide) rfl (cwV 1 hts gX4_pickFirst_X2_reach rfl rfl rfl (by decide +kernel) ⟨Nat.le_of_ble_eq_true rfl, Nat.le_of_ble_eq_true rfl⟩) rfl hl.1 rfl (Nat.le_of_ble_eq_true rfl) dX4_pickFirst_14 ⟨Nat.zero_le _, Nat.zero_le _⟩ (fun r5 M0 J0 H locs hq hw => ?_)
  obtain ⟨hq, rfl, rfl⟩ := hq
  refine lv_istore_n (lv' := [(3, .int r5), (2, .int r4), (0, .ref (ad o0)), (1, .int x1)]) hx hb dX4_pickFirst_17 rfl hl (by decide) rfl (fun ls hl => ?_)
  refine lv_iload_n hx hb dX4_pickFirst_18 rfl (lv_at hl 1 rfl) ?_
  refine lv_ineg hx hb dX4_pickFirst_19 ?_
  refine lv_istore (lv' := [(4, .int (-r4)), (3, .int r5), (2, .int r4), (0, .ref (ad o0)), (1, .int x1)]) hx hb dX4_pickFirst_20 hl (by decide) rfl (fun ls hl => ?_)
  have ex22_50 : ∀ (x7 : Int32) (x8 : Int32) (H : Heap) (locs : List Loc) (ls : Array Slot), (∀ M9 : zM, M9 = va_up M (o0 + 7) (upd (M (o0 + 7)) (0 : Int32).toNatClampNeg x7) → ∀ M10 : zM, M10 = va_up M9 (o0 + 7) (upd (M9 (o0 + 7)) (1 : Int32).toNatClampNeg x8) → Q M10) → zH D Y ad kd RL M J A s.heap H locs s → lv_has ls 6 [(0, .ref (ad o0)), (4, .int x7), (5, .int x8)] → W p l e rmX4_pickFirst s m ar below meth c H locs 0 0 QE (F0 m 50 ls []) := by
    intro x7 x8 H locs ls hq hw hl
    refine lv_aload_n hx hb dX4_pickFirst_50 rfl (lv_at hl 0 rfl) ?_
    refine zg4_slews hx hb g4 hown hw h_o0 q2 dX4_pickFirst_51 ?_
    refine lv_iconst (v := (0 : Int32)) hx hb dX4_pickFirst_54 (by decide) ?_
    refine lv_iload hx hb dX4_pickFirst_55 (lv_at hl 1 rfl) ?_
    have hi : vp_in (0 : Int32) 12 := by unfold vp_in; decide
    refine z_iast (n := 12) hx hb hw (zk_4_7 hC h_o0) hi dX4_pickFirst_57 (fun H locs hw => ?_)
    obtain ⟨M9, e_M9⟩ : ∃ y : zM, y = va_up M (o0 + 7) (upd (M (o0 + 7)) (0 : Int32).toNatClampNeg x7) := ⟨_, rfl⟩
    rw [← e_M9] at hw
    have hq := hq M9 e_M9
    refine lv_aload_n hx hb dX4_pickFirst_58 rfl (lv_at hl 0 rfl) ?_
    refine zg4_slews hx hb g4 hown hw h_o0 q2 dX4_pickFirst_59 ?_
    refine lv_iconst (v := (1 : Int32)) hx hb dX4_pickFirst_62 (by decide) ?_
    refine lv_iload hx hb dX4_pickFirst_63 (lv_at hl 2 rfl) ?_
    have hi : vp_in (1 : Int32) 12 := by unfold vp_in; decide
    refine z_iast (n := 12) hx hb hw (zk_4_7 hC h_o0) hi dX4_pickFirst_65 (fun H locs hw => ?_)
    obtain ⟨M10, e_M10⟩ : ∃ y : zM, y = va_up M9 (o0 + 7) (upd (M9 (o0 + 7)) (1 : Int32).toNatClampNeg x8) := ⟨_, rfl⟩
    rw [← e_M10] at hw
    have hq := hq M10 e_M10
    exact z_vret hQE hx hb hr hlk hw dX4_pickFirst_66 ⟨hq, rfl⟩
  obtain ⟨fu22, hq⟩ := hq
  have lp22 : ∀ (fu22 : Nat) (x6 : Int32) (H : Heap) (locs : List Loc) (ls : Array Slot), lpX4_pickFirst_22 M o0 x1 r4 r5 Q (fun x7 x8 => ∀ M9 : zM, M9 = va_up M (o0 + 7) (upd (M (o0 + 7)) (0 : Int32).toNatClampNeg x7) → ∀ M10 : zM, M10 = va_up M9 (o0 + 7) (upd (M9 (o0 + 7)) (1 : Int32).toNatClampNeg x8) → Q M10) fu22 x6 → zH D Y ad kd RL M J A s.heap H locs s → lv_has ls 6 [(0, .ref (ad o0)), (1, .int x1), (2, .int r4), (3, .int r5), (4, .int x6)] → W p l e rmX4_pickFirst s m ar below meth c H locs 0 0 QE (F0 m 22 ls []) := by
    intro fu22
    induction fu22 with
    | zero => intro x6 H locs ls hq; exact hq.elim
    | succ fu22 ih22 =>
      intro x6 H locs ls hq hw hl
      unfold lpX4_pickFirst_22 at hq
      refine lv_iload hx hb dX4_pickFirst_22 (lv_at hl 4 rfl) ?_
      refine lv_iload_n hx hb dX4_pickFirst_24 rfl (lv_at hl 2 rfl) ?_
      refine lv_icmp_gt (tgt := 79) hx hb dX4_pickFirst_25 (by decide) (fun hc => ?_) (fun hc => ?_)
      · have hq := hq.1 hc
        exact z_vret hQE hx hb hr hlk hw dX4_pickFirst_79 ⟨hq, rfl⟩
      · have hq := hq.2 hc
        refine lv_iload_n hx hb dX4_pickFirst_28 rfl (lv_at hl 3 rfl) ?_
        refine lv_ineg hx hb dX4_pickFirst_29 ?_
        refine lv_istore (lv' := [(5, .int (-r5)), (0, .ref (ad o0)), (1, .int x1), (2, .int r4), (3, .int r5), (4, .int x6)]) hx hb dX4_pickFirst_30 hl (by decide) rfl (fun ls hl => ?_)
        have ex32_73 : ∀ (x12 : Int32) (H : Heap) (locs : List Loc) (ls : Array Slot), (∀ x13 : Int32, x13 = x6 + (1 : Int32) → lpX4_pickFirst_22 M o0 x1 r4 r5 Q (fun x7 x8 => ∀ M9 : zM, M9 = va_up M (o0 + 7) (upd (M (o0 + 7)) (0 : Int32).toNatClampNeg x7) → ∀ M10 : zM, M10 = va_up M9 (o0 + 7) (upd (M9 (o0 + 7)) (1 : Int32).toNatClampNeg x8) → Q M10) fu22 x13) → zH D Y ad kd RL M J A s.heap H locs s → lv_has ls 6 [(0, .ref (ad o0)), (1, .int x1), (2, .int r4), (3, .int r5), (4, .int x6)] → W p l e rmX4_pickFirst s m ar below meth c H locs 0 0 QE (F0 m 73 ls []) := by
          intro x12 H locs ls hq hw hl
          obtain ⟨x13, e_x13⟩ : ∃ y : Int32, y = x6 + (1 : Int32) := ⟨_, rfl⟩
          have hq := hq x13 e_x13
          refine lv_iinc (v := x13) (lv' := [(4, .int x13), (0, .ref (ad o0)), (1, .int x1), (2, .int r4), (3, .int r5)]) hx hb dX4_pickFirst_73 hl (k := 4) rfl (by rw [e_x13]; rfl) (by decide) rfl (fun ls hl => ?_)
          refine lv_goto (tgt := 22) hx hb dX4_pickFirst_76 (by decide) ?_
          exact ih22 x13 _ _ _ hq hw (lv_sub hl [1, 2, 3, 4, 0] rfl)
        have ex32_50 : ∀ (x14 : Int32) (H : Heap) (locs : List Loc) (ls : Array Slot), ((fun x7 x8 => ∀ M9 : zM, M9 = va_up M (o0 + 7) (upd (M (o0 + 7)) (0 : Int32).toNatClampNeg x7) → ∀ M10 : zM, M10 = va_up M9 (o0 + 7) (upd (M9 (o0 + 7)) (1 : Int32).toNatClampNeg x8) → Q M10) x6 x14) → zH D Y ad kd RL M J A s.heap H locs s → lv_has ls 6 [(0, .ref (ad o0)), (4, .int x6), (5, .int x14)] → W p l e rmX4_pickFirst s m ar below meth c H locs 0 0 QE (F0 m 50 ls []) := by
          intro x14 H locs ls hq hw hl
          exact ex22_50 x6 x14 _ _ _ hq hw (lv_sub hl [0, 1, 2] rfl)
        obtain ⟨fu32, hq⟩ := hq
        have lp32 : ∀ (fu32 : Nat) (x11 : Int32) (H : Heap) (locs : List Loc) (ls : Array Slot), lpX4_pickFirst_32 M o0 x1 r5 x6 (fun x12 => ∀ x13 : Int32, x13 = x6 + (1 : Int32) → lpX4_pickFirst_22 M o0 x1 r4 r5 Q (fun x7 x8 => ∀ M9 : zM, M9 = va_up M (o0 + 7) (upd (M (o0 + 7)) (0 : Int32).toNatClampNeg x7) → ∀ M10 : zM, M10 = va_up M9 (o0 + 7) (upd (M9 (o0 + 7)) (1 : Int32).toNatClampNeg x8) → Q M10) fu22 x13) (fun x14 => (fun x7 x8 => ∀ M9 : zM, M9 = va_up M (o0 + 7) (upd (M (o0 + 7)) (0 : Int32).toNatClampNeg x7) → ∀ M10 : zM, M10 = va_up M9 (o0 + 7) (upd (M9 (o0 + 7)) (1 : Int32).toNatClampNeg x8) → Q M10) x6 x14) fu32 x11 → zH D Y ad kd RL M J A s.heap H locs s → lv_has ls 6 [(0, .ref (ad o0)), (1, .int x1), (2, .int r4), (3, .int r5), (4, .int x6), (5, .int x11)] → W p l e rmX4_pickFirst s m ar below meth c H locs 0 0 QE (F0 m 32 ls []) := by
          intro fu32
          induction fu32 with
          | zero => intro x11 H locs ls hq; exact hq.elim
          | succ fu32 ih32 =>
            intro x11 H locs ls hq hw hl
            unfold lpX4_pickFirst_32 at hq
            refine lv_iload hx hb dX4_pickFirst_32 (lv_at hl 5 rfl) ?_
            refine lv_iload_n hx hb dX4_pickFirst_34 rfl (lv_at hl 3 rfl) ?_
            refine lv_icmp_gt (tgt := 73) hx hb dX4_pickFirst_35 (by decide) (fun hc => ?_) (fun hc => ?_)
            · have hq := hq.1 hc
              exact ex32_73 x11 _ _ _ hq hw (lv_sub hl [0, 1, 2, 3, 4] rfl)
            · have hq := hq.2 hc
              refine lv_aload_n hx hb dX4_pickFirst_38 rfl (lv_at hl 0 rfl) ?_
              refine lv_iload hx hb dX4_pickFirst_39 (lv_at hl 4 rfl) ?_
              refine lv_iload hx hb dX4_pickFirst_41 (lv_at hl 5 rfl) ?_
              refine z_cvi ⟨hx, hb, hml, hown, hts⟩ hw h_o0 (kX4_costOfFirst h_o0 hq) (by decide) rfl (cwV 2 hts gX4_pickFirst_X4_costOfFirst rfl rfl rfl (by decide +kernel) ⟨Nat.le_of_ble_eq_true rfl, Nat.le_of_ble_eq_true rfl⟩) rfl hl.1 rfl (Nat.le_of_ble_eq_true rfl) dX4_pickFirst_43 ⟨Nat.zero_le _, Nat.zero_le _⟩ (fun r15 M0 J0 H locs hq hw => ?_)
              obtain ⟨hq, rfl, rfl⟩ := hq
              refine lv_iload_n hx hb dX4_pickFirst_46 rfl (lv_at hl 1 rfl) ?_
              refine lv_icmp_ne (tgt := 67) hx hb dX4_pickFirst_47 (by decide) (fun hc => ?_) (fun hc => ?_)
              · have hq := hq.1 hc
                obtain ⟨x16, e_x16⟩ : ∃ y : Int32, y = x11 + (1 : Int32) := ⟨_, rfl⟩
                have hq := hq x16 e_x16
                refine lv_iinc (v := x16) (lv' := [(5, .int x16), (0, .ref (ad o0)), (1, .int x1), (2, .int r4), (3, .int r5), (4, .int x6)]) hx hb dX4_pickFirst_67 hl (k := 5) rfl (by rw [e_x16]; rfl) (by decide) rfl (fun ls hl => ?_)
                refine lv_goto (tgt := 32) hx hb dX4_pickFirst_70 (by decide) ?_
                exact ih32 x16 _ _ _ hq hw (lv_sub hl [1, 2, 3, 4, 5, 0] rfl)
              · have hq := hq.2 hc
                exact ex32_50 x11 _ _ _ hq hw (lv_sub hl [0, 4, 5] rfl)
        exact lp32 fu32 (-r5) _ _ _ hq hw (lv_sub hl [1, 2, 3, 4, 5, 0] rfl)
  exact lp22 fu22 (-r4) _ _ _ hq hw (lv_sub hl [3, 4, 2, 1, 0] rfl)
set_option maxRecDepth 20000 in
theorem ggX4_pickNext_X2_reach : GoodIn wsX4_pickNext wsX2_reach := goodIn_r _ [11, 12, 13, 14, 15, 16, 5, 17, 44, 45, 46, 47, 48, 49] (by decide +kernel) (by decide +kernel)
set_option maxRecDepth 20000 in
theorem gX4_pickNext_X2_reach : GoodIn wsX4_pickNext (wsV RX4 60 RX2 yX2_reach wsX2_reach) := goodIn_app (goodIn_of _ (by decide +kernel)) ggX4_pickNext_X2_reach
set_option maxRecDepth 20000 in
theorem ggX4_pickNext_X4_placeOf : GoodIn wsX4_pickNext wsX4_placeOf := goodIn_r _ [21] (by decide +kernel) (by decide +kernel)
set_option maxRecDepth 20000 in
theorem gX4_pickNext_X4_placeOf : GoodIn wsX4_pickNext (va_wsS RX4 68 yX4_placeOf wsX4_placeOf) := goodIn_app (goodIn_of _ (by decide +kernel)) ggX4_pickNext_X4_placeOf
set_option maxRecDepth 20000 in
theorem ggX4_pickNext_X4_leanOf : GoodIn wsX4_pickNext wsX4_leanOf := goodIn_r _ [25, 1, 26, 37, 38, 39, 40, 41, 42, 43, 44, 45, 46, 47, 48, 49] (by decide +kernel) (by decide +kernel)
set_option maxRecDepth 20000 in
theorem gX4_pickNext_X4_leanOf : GoodIn wsX4_pickNext (wsV RX4 79 RX4 yX4_leanOf wsX4_leanOf) := goodIn_app (goodIn_of _ (by decide +kernel)) ggX4_pickNext_X4_leanOf
set_option maxRecDepth 20000 in
theorem ggX4_pickNext_X2_isEased : GoodIn wsX4_pickNext wsX2_isEased := goodIn_r _ [30, 12, 13, 44, 45, 46, 47, 48, 49] (by decide +kernel) (by decide +kernel)
set_option maxRecDepth 20000 in
theorem gX4_pickNext_X2_isEased : GoodIn wsX4_pickNext (wsV RX4 75 RX2 yX2_isEased wsX2_isEased) := goodIn_app (goodIn_of _ (by decide +kernel)) ggX4_pickNext_X2_isEased
set_option maxRecDepth 20000 in
theorem ggX4_pickNext_X4_costOf : GoodIn wsX4_pickNext wsX4_costOf := goodIn_r _ [34, 35, 36, 37, 38, 39, 40, 41, 42, 43] (by decide +kernel) (by decide +kernel)
set_option maxRecDepth 20000 in
theorem gX4_pickNext_X4_costOf : GoodIn wsX4_pickNext (wsV RX4 88 RX4 yX4_costOf wsX4_costOf) := goodIn_app (goodIn_of _ (by decide +kernel)) ggX4_pickNext_X4_costOf
theorem dX4_pickNext_0 : decode cX4_pickNext 0 = .ok (.aload_n 0, 1) := by decide +kernel
theorem dX4_pickNext_1 : decode cX4_pickNext 1 = .ok (.getfield 12, 3) := by decide +kernel
theorem dX4_pickNext_4 : decode cX4_pickNext 4 = .ok (.iload_n 1, 1) := by decide +kernel
theorem dX4_pickNext_5 : decode cX4_pickNext 5 = .ok (.iconst 2, 1) := by decide +kernel
theorem dX4_pickNext_6 : decode cX4_pickNext 6 = .ok (.iadd, 1) := by decide +kernel
theorem dX4_pickNext_7 : decode cX4_pickNext 7 = .ok (.invokevirtual 60, 3) := by decide +kernel
theorem dX4_pickNext_10 : decode cX4_pickNext 10 = .ok (.istore 5, 2) := by decide +kernel
theorem dX4_pickNext_12 : decode cX4_pickNext 12 = .ok (.aload_n 0, 1) := by decide +kernel
theorem dX4_pickNext_13 : decode cX4_pickNext 13 = .ok (.getfield 18, 3) := by decide +kernel
theorem dX4_pickNext_16 : decode cX4_pickNext 16 = .ok (.iload_n 1, 1) := by decide +kernel
theorem dX4_pickNext_17 : decode cX4_pickNext 17 = .ok (.iload_n 2, 1) := by decide +kernel
theorem dX4_pickNext_18 : decode cX4_pickNext 18 = .ok (.iload_n 3, 1) := by decide +kernel
theorem dX4_pickNext_19 : decode cX4_pickNext 19 = .ok (.iload 4, 2) := by decide +kernel
theorem dX4_pickNext_21 : decode cX4_pickNext 21 = .ok (.invokestatic 68, 3) := by decide +kernel
theorem dX4_pickNext_24 : decode cX4_pickNext 24 = .ok (.iaload, 1) := by decide +kernel
theorem dX4_pickNext_25 : decode cX4_pickNext 25 = .ok (.istore 6, 2) := by decide +kernel
theorem dX4_pickNext_27 : decode cX4_pickNext 27 = .ok (.aload_n 0, 1) := by decide +kernel
theorem dX4_pickNext_28 : decode cX4_pickNext 28 = .ok (.iload_n 1, 1) := by decide +kernel
theorem dX4_pickNext_29 : decode cX4_pickNext 29 = .ok (.iload_n 2, 1) := by decide +kernel
theorem dX4_pickNext_30 : decode cX4_pickNext 30 = .ok (.iload_n 3, 1) := by decide +kernel
theorem dX4_pickNext_31 : decode cX4_pickNext 31 = .ok (.iload 4, 2) := by decide +kernel
theorem dX4_pickNext_33 : decode cX4_pickNext 33 = .ok (.invokevirtual 79, 3) := by decide +kernel
theorem dX4_pickNext_36 : decode cX4_pickNext 36 = .ok (.istore 7, 2) := by decide +kernel
theorem dX4_pickNext_38 : decode cX4_pickNext 38 = .ok (.iload 5, 2) := by decide +kernel
theorem dX4_pickNext_40 : decode cX4_pickNext 40 = .ok (.ineg, 1) := by decide +kernel
theorem dX4_pickNext_41 : decode cX4_pickNext 41 = .ok (.istore 8, 2) := by decide +kernel
theorem dX4_pickNext_43 : decode cX4_pickNext 43 = .ok (.iload 8, 2) := by decide +kernel
theorem dX4_pickNext_45 : decode cX4_pickNext 45 = .ok (.iload 5, 2) := by decide +kernel
theorem dX4_pickNext_47 : decode cX4_pickNext 47 = .ok (.if_icmp .gt 66, 3) := by decide +kernel
theorem dX4_pickNext_50 : decode cX4_pickNext 50 = .ok (.aload_n 0, 1) := by decide +kernel
theorem dX4_pickNext_51 : decode cX4_pickNext 51 = .ok (.getfield 12, 3) := by decide +kernel
theorem dX4_pickNext_54 : decode cX4_pickNext 54 = .ok (.iload_n 1, 1) := by decide +kernel
theorem dX4_pickNext_55 : decode cX4_pickNext 55 = .ok (.invokevirtual 75, 3) := by decide +kernel
theorem dX4_pickNext_58 : decode cX4_pickNext 58 = .ok (.ifCond .eq 7, 3) := by decide +kernel
theorem dX4_pickNext_61 : decode cX4_pickNext 61 = .ok (.iconst 0, 1) := by decide +kernel
theorem dX4_pickNext_62 : decode cX4_pickNext 62 = .ok (.goto 11, 3) := by decide +kernel
theorem dX4_pickNext_65 : decode cX4_pickNext 65 = .ok (.iload 7, 2) := by decide +kernel
theorem dX4_pickNext_67 : decode cX4_pickNext 67 = .ok (.iload 8, 2) := by decide +kernel
theorem dX4_pickNext_69 : decode cX4_pickNext 69 = .ok (.iadd, 1) := by decide +kernel
theorem dX4_pickNext_70 : decode cX4_pickNext 70 = .ok (.invokestatic 83, 3) := by decide +kernel
theorem dX4_pickNext_73 : decode cX4_pickNext 73 = .ok (.istore 9, 2) := by decide +kernel
theorem dX4_pickNext_75 : decode cX4_pickNext 75 = .ok (.aload_n 0, 1) := by decide +kernel
theorem dX4_pickNext_76 : decode cX4_pickNext 76 = .ok (.iload 9, 2) := by decide +kernel
theorem dX4_pickNext_78 : decode cX4_pickNext 78 = .ok (.iload 8, 2) := by decide +kernel
theorem dX4_pickNext_80 : decode cX4_pickNext 80 = .ok (.aload_n 0, 1) := by decide +kernel
theorem dX4_pickNext_81 : decode cX4_pickNext 81 = .ok (.getfield 18, 3) := by decide +kernel
theorem dX4_pickNext_84 : decode cX4_pickNext 84 = .ok (.iload_n 1, 1) := by decide +kernel
theorem dX4_pickNext_85 : decode cX4_pickNext 85 = .ok (.iconst 1, 1) := by decide +kernel
theorem dX4_pickNext_86 : decode cX4_pickNext 86 = .ok (.iadd, 1) := by decide +kernel
theorem dX4_pickNext_87 : decode cX4_pickNext 87 = .ok (.iload_n 3, 1) := by decide +kernel
theorem dX4_pickNext_88 : decode cX4_pickNext 88 = .ok (.iload 4, 2) := by decide +kernel
theorem dX4_pickNext_90 : decode cX4_pickNext 90 = .ok (.iload 8, 2) := by decide +kernel
theorem dX4_pickNext_92 : decode cX4_pickNext 92 = .ok (.invokestatic 68, 3) := by decide +kernel
theorem dX4_pickNext_95 : decode cX4_pickNext 95 = .ok (.iaload, 1) := by decide +kernel
theorem dX4_pickNext_96 : decode cX4_pickNext 96 = .ok (.invokevirtual 88, 3) := by decide +kernel
theorem dX4_pickNext_99 : decode cX4_pickNext 99 = .ok (.iload 6, 2) := by decide +kernel
theorem dX4_pickNext_101 : decode cX4_pickNext 101 = .ok (.if_icmp .ne 6, 3) := by decide +kernel
theorem dX4_pickNext_104 : decode cX4_pickNext 104 = .ok (.iload 8, 2) := by decide +kernel
theorem dX4_pickNext_106 : decode cX4_pickNext 106 = .ok (.ireturn, 1) := by decide +kernel
theorem dX4_pickNext_107 : decode cX4_pickNext 107 = .ok (.iinc 8 1, 3) := by decide +kernel
theorem dX4_pickNext_110 : decode cX4_pickNext 110 = .ok (.goto (-67), 3) := by decide +kernel
theorem dX4_pickNext_113 : decode cX4_pickNext 113 = .ok (.iconst 0, 1) := by decide +kernel
theorem dX4_pickNext_114 : decode cX4_pickNext 114 = .ok (.ireturn, 1) := by decide +kernel
def rmX4_pickNext : Room := { frames := 2, cells := 0, slots := 0, locals := 45 }
def jnX4_pickNext_73 (M : zM) (o0 : Nat) (x1 : Int32) (x3 : Int32) (x4 : Int32) (r8 : Int32) (x10 : Int32) (Q : Int32 → Prop) (B43 : Int32 → Prop) (x12 : Int32) : Prop :=
    wX4_placeOf M (x1 + (1 : Int32)) x3 x4 x10 (fun r13 =>
    vp_in r13 4116 ∧
    wX4_costOf M o0 x12 x10 (M (o0 + 6) r13.toNatClampNeg) (fun r14 =>
    ((¬ r14 = (M (o0 + 6) r8.toNatClampNeg)) → (
    ∀ x15 : Int32, x15 = x10 + (1 : Int32) →
    B43 x15)) ∧
    ((r14 = (M (o0 + 6) r8.toNatClampNeg)) → (
    Q x10))))
def lpX4_pickNext_43 (M : zM) (o0 : Nat) (x1 : Int32) (x3 : Int32) (x4 : Int32) (r7 : Int32) (r8 : Int32) (r9 : Int32) (Q : Int32 → Prop) : Nat → Int32 → Prop
  | 0, _ => False
  | fu43 + 1, x10 =>
    ((r7 < x10) → (
    Q (0 : Int32))) ∧
    ((¬ r7 < x10) → (
    wX2_isEased M (o0 + 1) x1 (fun r11 =>
    ((r11 = 0) → (
    jnX4_pickNext_73 M o0 x1 x3 x4 r8 x10 Q (lpX4_pickNext_43 M o0 x1 x3 x4 r7 r8 r9 Q fu43) (zabs (r9 + x10)))) ∧
    ((¬ r11 = 0) → (
    jnX4_pickNext_73 M o0 x1 x3 x4 r8 x10 Q (lpX4_pickNext_43 M o0 x1 x3 x4 r7 r8 r9 Q fu43) (0 : Int32))))))
def wX4_pickNext (M : zM) (o0 : Nat) (x1 : Int32) (x2 : Int32) (x3 : Int32) (x4 : Int32) (Q : Int32 → Prop) : Prop :=
    wX2_reach M (o0 + 1) (x1 + (2 : Int32)) (fun r7 =>
    wX4_placeOf M x1 x2 x3 x4 (fun r8 =>
    vp_in r8 4116 ∧
    wX4_leanOf M o0 x1 x2 x3 x4 (fun r9 =>
    ∃ fu43 : Nat, lpX4_pickNext_43 M o0 x1 x3 x4 r7 r8 r9 Q fu43 (-r7))))
set_option maxHeartbeats 4000000 in
set_option maxRecDepth 100000 in
theorem kX4_pickNext {l : Launch} {D : va_G} {Y : zY} {ad kd : Nat → Nat} {RL : List Nat} {M : zM} {J : zL} {o0 : Nat} {x1 : Int32} {x2 : Int32} {x3 : Int32} {x4 : Int32} (h_o0 : kd o0 = 4) {Q : Int32 → Prop} (hq : wX4_pickNext M o0 x1 x2 x3 x4 Q) : zCi l yX4_pickNext wsX4_pickNext rmX4_pickNext [.ref (ad o0), .int x1, .int x2, .int x3, .int x4] D Y ad kd RL M J (fun r M' J' => Q r ∧ M = M' ∧ J = J') := by
  refine z_meti (cc := cX4_pickNext) (maxL := 10) (ret := (some .int)) (by decide) rfl (Nat.le_of_ble_eq_true rfl) ?_
  intro p e s m below meth c ls A ar QE hQE hx hb hr hml hown hts hlk hw hl
  have hown : s.vm.findClass RX4 = some m.cls := hown
  have hl : lv_has ls 10 [(0, .ref (ad o0)), (1, .int x1), (2, .int x2), (3, .int x3), (4, .int x4)] := hl
  have hC := hw.2.2.2.2.2.1
  have g4 : ∀ w ∈ wsX40, w.before ar s = true := (fun w h => hts w (List.mem_cons_of_mem _ (List.mem_append_left _ (List.mem_append_right _ h))))
  have q1 := hts _ (List.mem_of_getElem? (i := 1) rfl)
  have q2 := hts _ (List.mem_of_getElem? (i := 2) rfl)
  have q3 := hts _ (List.mem_of_getElem? (i := 3) rfl)
  have q4 := hts _ (List.mem_of_getElem? (i := 4) rfl)
  have q5 := hts _ (List.mem_of_getElem? (i := 5) rfl)
  have q6 := hts _ (List.mem_of_getElem? (i := 6) rfl)
  unfold wX4_pickNext at hq
  refine lv_aload_n hx hb dX4_pickNext_0 rfl (lv_at hl 0 rfl) ?_
  refine zg4_known hx hb g4 hown hw h_o0 q1 dX4_pickNext_1 ?_
  refine lv_iload_n hx hb dX4_pickNext_4 rfl (lv_at hl 1 rfl) ?_
  refine lv_iconst (v := (2 : Int32)) hx hb dX4_pickNext_5 (by decide) ?_
  refine lv_iadd hx hb dX4_pickNext_6 ?_
  refine z_cvi ⟨hx, hb, hml, hown, hts⟩ hw (zk_4_1 hC h_o0) (kX2_reach (zk_4_1 hC h_o0) hq) (by decide) rfl (cwV 1 hts gX4_pickNext_X2_reach rfl rfl rfl (by decide +kernel) ⟨Nat.le_of_ble_eq_true rfl, Nat.le_of_ble_eq_true rfl⟩) rfl hl.1 rfl (Nat.le_of_ble_eq_true rfl) dX4_pickNext_7 ⟨Nat.zero_le _, Nat.zero_le _⟩ (fun r7 M0 J0 H locs hq hw => ?_)
  obtain ⟨hq, rfl, rfl⟩ := hq
  refine lv_istore (lv' := [(5, .int r7), (0, .ref (ad o0)), (1, .int x1), (2, .int x2), (3, .int x3), (4, .int x4)]) hx hb dX4_pickNext_10 hl (by decide) rfl (fun ls hl => ?_)
  refine lv_aload_n hx hb dX4_pickNext_12 rfl (lv_at hl 1 rfl) ?_
  refine zg4_table hx hb g4 hown hw h_o0 q2 dX4_pickNext_13 ?_
  refine lv_iload_n hx hb dX4_pickNext_16 rfl (lv_at hl 2 rfl) ?_
  refine lv_iload_n hx hb dX4_pickNext_17 rfl (lv_at hl 3 rfl) ?_
  refine lv_iload_n hx hb dX4_pickNext_18 rfl (lv_at hl 4 rfl) ?_
  refine lv_iload hx hb dX4_pickNext_19 (lv_at hl 5 rfl) ?_
  refine z_csi ⟨hx, hb, hml, hown, hts⟩ hw (kX4_placeOf  hq) (va_cwS 4 hts gX4_pickNext_X4_placeOf rfl rfl rfl (by decide +kernel) ⟨Nat.le_of_ble_eq_true rfl, Nat.le_of_ble_eq_true rfl⟩) rfl hl.1 rfl (Nat.le_of_ble_eq_true rfl) dX4_pickNext_21 ⟨Nat.zero_le _, Nat.zero_le _⟩ (fun r8 M0 J0 H locs hq hw => ?_)
  obtain ⟨hq, rfl, rfl⟩ := hq
  obtain ⟨hi, hq⟩ := hq
  refine z_iald (n := 4116) hx hb hw (zk_4_6 hC h_o0) hi dX4_pickNext_24 ?_
  refine lv_istore (lv' := [(6, .int (M (o0 + 6) r8.toNatClampNeg)), (5, .int r7), (0, .ref (ad o0)), (1, .int x1), (2, .int x2), (3, .int x3), (4, .int x4)]) hx hb dX4_pickNext_25 hl (by decide) rfl (fun ls hl => ?_)
  refine lv_aload_n hx hb dX4_pickNext_27 rfl (lv_at hl 2 rfl) ?_
  refine lv_iload_n hx hb dX4_pickNext_28 rfl (lv_at hl 3 rfl) ?_
  refine lv_iload_n hx hb dX4_pickNext_29 rfl (lv_at hl 4 rfl) ?_
  refine lv_iload_n hx hb dX4_pickNext_30 rfl (lv_at hl 5 rfl) ?_
  refine lv_iload hx hb dX4_pickNext_31 (lv_at hl 6 rfl) ?_
  refine z_cvi ⟨hx, hb, hml, hown, hts⟩ hw h_o0 (kX4_leanOf h_o0 hq) (by decide) rfl (cwV 4 hts gX4_pickNext_X4_leanOf rfl rfl rfl (by decide +kernel) ⟨Nat.le_of_ble_eq_true rfl, Nat.le_of_ble_eq_true rfl⟩) rfl hl.1 rfl (Nat.le_of_ble_eq_true rfl) dX4_pickNext_33 ⟨Nat.zero_le _, Nat.zero_le _⟩ (fun r9 M0 J0 H locs hq hw => ?_)
  obtain ⟨hq, rfl, rfl⟩ := hq
  refine lv_istore (lv' := [(7, .int r9), (6, .int (M (o0 + 6) r8.toNatClampNeg)), (5, .int r7), (0, .ref (ad o0)), (1, .int x1), (2, .int x2), (3, .int x3), (4, .int x4)]) hx hb dX4_pickNext_36 hl (by decide) rfl (fun ls hl => ?_)
  refine lv_iload hx hb dX4_pickNext_38 (lv_at hl 2 rfl) ?_
  refine lv_ineg hx hb dX4_pickNext_40 ?_
  refine lv_istore (lv' := [(8, .int (-r7)), (7, .int r9), (6, .int (M (o0 + 6) r8.toNatClampNeg)), (5, .int r7), (0, .ref (ad o0)), (1, .int x1), (2, .int x2), (3, .int x3), (4, .int x4)]) hx hb dX4_pickNext_41 hl (by decide) rfl (fun ls hl => ?_)
  obtain ⟨fu43, hq⟩ := hq
  have lp43 : ∀ (fu43 : Nat) (x10 : Int32) (H : Heap) (locs : List Loc) (ls : Array Slot), lpX4_pickNext_43 M o0 x1 x3 x4 r7 r8 r9 Q fu43 x10 → zH D Y ad kd RL M J A s.heap H locs s → lv_has ls 10 [(0, .ref (ad o0)), (1, .int x1), (3, .int x3), (4, .int x4), (5, .int r7), (6, .int (M (o0 + 6) r8.toNatClampNeg)), (7, .int r9), (8, .int x10)] → W p l e rmX4_pickNext s m ar below meth c H locs 0 0 QE (F0 m 43 ls []) := by
    intro fu43
    induction fu43 with
    | zero => intro x10 H locs ls hq; exact hq.elim
    | succ fu43 ih43 =>
      intro x10 H locs ls hq hw hl
      unfold lpX4_pickNext_43 at hq
      refine lv_iload hx hb dX4_pickNext_43 (lv_at hl 7 rfl) ?_
      refine lv_iload hx hb dX4_pickNext_45 (lv_at hl 4 rfl) ?_
      refine lv_icmp_gt (tgt := 113) hx hb dX4_pickNext_47 (by decide) (fun hc => ?_) (fun hc => ?_)
      · have hq := hq.1 hc
        refine lv_iconst (v := (0 : Int32)) hx hb dX4_pickNext_113 (by decide) ?_
        exact z_iret hQE hx hb hr hlk hw dX4_pickNext_114 ⟨hq, rfl, rfl⟩
      · have hq := hq.2 hc
        refine lv_aload_n hx hb dX4_pickNext_50 rfl (lv_at hl 0 rfl) ?_
        refine zg4_known hx hb g4 hown hw h_o0 q1 dX4_pickNext_51 ?_
        refine lv_iload_n hx hb dX4_pickNext_54 rfl (lv_at hl 1 rfl) ?_
        refine z_cvi ⟨hx, hb, hml, hown, hts⟩ hw (zk_4_1 hC h_o0) (kX2_isEased (zk_4_1 hC h_o0) hq) (by decide) rfl (cwV 1 hts gX4_pickNext_X2_isEased rfl rfl rfl (by decide +kernel) ⟨Nat.le_of_ble_eq_true rfl, Nat.le_of_ble_eq_true rfl⟩) rfl hl.1 rfl (Nat.le_of_ble_eq_true rfl) dX4_pickNext_55 ⟨Nat.zero_le _, Nat.zero_le _⟩ (fun r11 M0 J0 H locs hq hw => ?_)
        obtain ⟨hq, rfl, rfl⟩ := hq
        have jn73 : ∀ (x12 : Int32) (H : Heap) (locs : List Loc) (ls : Array Slot), jnX4_pickNext_73 M o0 x1 x3 x4 r8 x10 Q (lpX4_pickNext_43 M o0 x1 x3 x4 r7 r8 r9 Q fu43) x12 → zH D Y ad kd RL M J A s.heap H locs s → lv_has ls 10 [(0, .ref (ad o0)), (1, .int x1), (3, .int x3), (4, .int x4), (5, .int r7), (6, .int (M (o0 + 6) r8.toNatClampNeg)), (7, .int r9), (8, .int x10)] → W p l e rmX4_pickNext s m ar below meth c H locs 0 0 QE (F0 m 73 ls [.int x12]) := by
          intro x12 H locs ls hq hw hl
          unfold jnX4_pickNext_73 at hq
          refine lv_istore (lv' := [(9, .int x12), (0, .ref (ad o0)), (1, .int x1), (3, .int x3), (4, .int x4), (5, .int r7), (6, .int (M (o0 + 6) r8.toNatClampNeg)), (7, .int r9), (8, .int x10)]) hx hb dX4_pickNext_73 hl (by decide) rfl (fun ls hl => ?_)
          refine lv_aload_n hx hb dX4_pickNext_75 rfl (lv_at hl 1 rfl) ?_
          refine lv_iload hx hb dX4_pickNext_76 (lv_at hl 0 rfl) ?_
          refine lv_iload hx hb dX4_pickNext_78 (lv_at hl 8 rfl) ?_
          refine lv_aload_n hx hb dX4_pickNext_80 rfl (lv_at hl 1 rfl) ?_
          refine zg4_table hx hb g4 hown hw h_o0 q2 dX4_pickNext_81 ?_
          refine lv_iload_n hx hb dX4_pickNext_84 rfl (lv_at hl 2 rfl) ?_
          refine lv_iconst (v := (1 : Int32)) hx hb dX4_pickNext_85 (by decide) ?_
          refine lv_iadd hx hb dX4_pickNext_86 ?_
          refine lv_iload_n hx hb dX4_pickNext_87 rfl (lv_at hl 3 rfl) ?_
          refine lv_iload hx hb dX4_pickNext_88 (lv_at hl 4 rfl) ?_
          refine lv_iload hx hb dX4_pickNext_90 (lv_at hl 8 rfl) ?_
          refine z_csi ⟨hx, hb, hml, hown, hts⟩ hw (kX4_placeOf  hq) (va_cwS 4 hts gX4_pickNext_X4_placeOf rfl rfl rfl (by decide +kernel) ⟨Nat.le_of_ble_eq_true rfl, Nat.le_of_ble_eq_true rfl⟩) rfl hl.1 rfl (Nat.le_of_ble_eq_true rfl) dX4_pickNext_92 ⟨Nat.zero_le _, Nat.zero_le _⟩ (fun r13 M0 J0 H locs hq hw => ?_)
          obtain ⟨hq, rfl, rfl⟩ := hq
          obtain ⟨hi, hq⟩ := hq
          refine z_iald (n := 4116) hx hb hw (zk_4_6 hC h_o0) hi dX4_pickNext_95 ?_
          refine z_cvi ⟨hx, hb, hml, hown, hts⟩ hw h_o0 (kX4_costOf h_o0 hq) (by decide) rfl (cwV 3 hts gX4_pickNext_X4_costOf rfl rfl rfl (by decide +kernel) ⟨Nat.le_of_ble_eq_true rfl, Nat.le_of_ble_eq_true rfl⟩) rfl hl.1 rfl (Nat.le_of_ble_eq_true rfl) dX4_pickNext_96 ⟨Nat.zero_le _, Nat.zero_le _⟩ (fun r14 M0 J0 H locs hq hw => ?_)
          obtain ⟨hq, rfl, rfl⟩ := hq
          refine lv_iload hx hb dX4_pickNext_99 (lv_at hl 6 rfl) ?_
          refine lv_icmp_ne (tgt := 107) hx hb dX4_pickNext_101 (by decide) (fun hc => ?_) (fun hc => ?_)
          · have hq := hq.1 hc
            obtain ⟨x15, e_x15⟩ : ∃ y : Int32, y = x10 + (1 : Int32) := ⟨_, rfl⟩
            have hq := hq x15 e_x15
            refine lv_iinc (v := x15) (lv' := [(8, .int x15), (9, .int x12), (0, .ref (ad o0)), (1, .int x1), (3, .int x3), (4, .int x4), (5, .int r7), (6, .int (M (o0 + 6) r8.toNatClampNeg)), (7, .int r9)]) hx hb dX4_pickNext_107 hl (k := 8) rfl (by rw [e_x15]; rfl) (by decide) rfl (fun ls hl => ?_)
            refine lv_goto (tgt := 43) hx hb dX4_pickNext_110 (by decide) ?_
            exact ih43 x15 _ _ _ hq hw (lv_sub hl [2, 3, 4, 5, 6, 7, 8, 0] rfl)
          · have hq := hq.2 hc
            refine lv_iload hx hb dX4_pickNext_104 (lv_at hl 8 rfl) ?_
            exact z_iret hQE hx hb hr hlk hw dX4_pickNext_106 ⟨hq, rfl, rfl⟩
        refine lv_if_eq (tgt := 65) hx hb dX4_pickNext_58 (by decide) (fun hc => ?_) (fun hc => ?_)
        · have hq := hq.1 hc
          refine lv_iload hx hb dX4_pickNext_65 (lv_at hl 6 rfl) ?_
          refine lv_iload hx hb dX4_pickNext_67 (lv_at hl 7 rfl) ?_
          refine lv_iadd hx hb dX4_pickNext_69 ?_
          refine va_mabs hx hb (hml.trans hl.1.symm) hown q3 q4 q5 q6 (Nat.le_of_ble_eq_true rfl) (Nat.le_of_ble_eq_true rfl) (Nat.zero_le _) (Nat.zero_le _) dX4_pickNext_70 ?_
          exact jn73 (zabs (r9 + x10)) _ _ _ hq hw (lv_sub hl [0, 1, 2, 3, 4, 5, 6, 7] rfl)
        · have hq := hq.2 hc
          refine lv_iconst (v := (0 : Int32)) hx hb dX4_pickNext_61 (by decide) ?_
          refine lv_goto (tgt := 73) hx hb dX4_pickNext_62 (by decide) ?_
          exact jn73 (0 : Int32) _ _ _ hq hw (lv_sub hl [0, 1, 2, 3, 4, 5, 6, 7] rfl)
  exact lp43 fu43 (-r7) _ _ _ hq hw (lv_sub hl [4, 5, 7, 8, 3, 2, 1, 0] rfl)
set_option maxRecDepth 20000 in
theorem ggX4_pickSlews_X4_pickFirst : GoodIn wsX4_pickSlews wsX4_pickFirst := goodIn_r _ [8, 1, 3, 9, 10, 11, 12, 13, 14, 15, 16, 17, 18, 19, 20, 21, 22, 23, 7, 24, 25, 26, 27, 28, 29, 30, 31, 32, 51, 52, 53, 54, 55, 56, 57, 58, 59, 60, 61, 62, 63] (by decide +kernel) (by decide +kernel)
set_option maxRecDepth 20000 in
theorem gX4_pickSlews_X4_pickFirst : GoodIn wsX4_pickSlews (wsV RX4 102 RX4 yX4_pickFirst wsX4_pickFirst) := goodIn_app (goodIn_of _ (by decide +kernel)) ggX4_pickSlews_X4_pickFirst
set_option maxRecDepth 20000 in
theorem ggX4_pickSlews_X4_pickNext : GoodIn wsX4_pickSlews wsX4_pickNext := goodIn_r _ [36, 1, 25, 27, 28, 19, 29, 9, 10, 11, 12, 13, 14, 15, 16, 17, 18, 20, 30, 31, 7, 32, 37, 38, 39, 40, 41, 42, 43, 44, 45, 46, 47, 48, 49, 26, 50, 51, 52, 53, 54, 55, 56, 57, 58, 59, 60, 61, 62, 63] (by decide +kernel) (by decide +kernel)
set_option maxRecDepth 20000 in
theorem gX4_pickSlews_X4_pickNext : GoodIn wsX4_pickSlews (wsV RX4 105 RX4 yX4_pickNext wsX4_pickNext) := goodIn_app (goodIn_of _ (by decide +kernel)) ggX4_pickSlews_X4_pickNext
theorem dX4_pickSlews_0 : decode cX4_pickSlews 0 = .ok (.aload_n 0, 1) := by decide +kernel
theorem dX4_pickSlews_1 : decode cX4_pickSlews 1 = .ok (.iload_n 1, 1) := by decide +kernel
theorem dX4_pickSlews_2 : decode cX4_pickSlews 2 = .ok (.invokevirtual 102, 3) := by decide +kernel
theorem dX4_pickSlews_5 : decode cX4_pickSlews 5 = .ok (.iconst 0, 1) := by decide +kernel
theorem dX4_pickSlews_6 : decode cX4_pickSlews 6 = .ok (.istore_n 2, 1) := by decide +kernel
theorem dX4_pickSlews_7 : decode cX4_pickSlews 7 = .ok (.iconst 0, 1) := by decide +kernel
theorem dX4_pickSlews_8 : decode cX4_pickSlews 8 = .ok (.istore_n 3, 1) := by decide +kernel
theorem dX4_pickSlews_9 : decode cX4_pickSlews 9 = .ok (.iload_n 3, 1) := by decide +kernel
theorem dX4_pickSlews_10 : decode cX4_pickSlews 10 = .ok (.iconst 2, 1) := by decide +kernel
theorem dX4_pickSlews_11 : decode cX4_pickSlews 11 = .ok (.iadd, 1) := by decide +kernel
theorem dX4_pickSlews_12 : decode cX4_pickSlews 12 = .ok (.aload_n 0, 1) := by decide +kernel
theorem dX4_pickSlews_13 : decode cX4_pickSlews 13 = .ok (.getfield 12, 3) := by decide +kernel
theorem dX4_pickSlews_16 : decode cX4_pickSlews 16 = .ok (.getfield 57, 3) := by decide +kernel
theorem dX4_pickSlews_19 : decode cX4_pickSlews 19 = .ok (.if_icmp .ge 44, 3) := by decide +kernel
theorem dX4_pickSlews_22 : decode cX4_pickSlews 22 = .ok (.aload_n 0, 1) := by decide +kernel
theorem dX4_pickSlews_23 : decode cX4_pickSlews 23 = .ok (.getfield 22, 3) := by decide +kernel
theorem dX4_pickSlews_26 : decode cX4_pickSlews 26 = .ok (.iload_n 3, 1) := by decide +kernel
theorem dX4_pickSlews_27 : decode cX4_pickSlews 27 = .ok (.iconst 2, 1) := by decide +kernel
theorem dX4_pickSlews_28 : decode cX4_pickSlews 28 = .ok (.iadd, 1) := by decide +kernel
theorem dX4_pickSlews_29 : decode cX4_pickSlews 29 = .ok (.aload_n 0, 1) := by decide +kernel
theorem dX4_pickSlews_30 : decode cX4_pickSlews 30 = .ok (.iload_n 3, 1) := by decide +kernel
theorem dX4_pickSlews_31 : decode cX4_pickSlews 31 = .ok (.iload_n 2, 1) := by decide +kernel
theorem dX4_pickSlews_32 : decode cX4_pickSlews 32 = .ok (.aload_n 0, 1) := by decide +kernel
theorem dX4_pickSlews_33 : decode cX4_pickSlews 33 = .ok (.getfield 22, 3) := by decide +kernel
theorem dX4_pickSlews_36 : decode cX4_pickSlews 36 = .ok (.iload_n 3, 1) := by decide +kernel
theorem dX4_pickSlews_37 : decode cX4_pickSlews 37 = .ok (.iaload, 1) := by decide +kernel
theorem dX4_pickSlews_38 : decode cX4_pickSlews 38 = .ok (.aload_n 0, 1) := by decide +kernel
theorem dX4_pickSlews_39 : decode cX4_pickSlews 39 = .ok (.getfield 22, 3) := by decide +kernel
theorem dX4_pickSlews_42 : decode cX4_pickSlews 42 = .ok (.iload_n 3, 1) := by decide +kernel
theorem dX4_pickSlews_43 : decode cX4_pickSlews 43 = .ok (.iconst 1, 1) := by decide +kernel
theorem dX4_pickSlews_44 : decode cX4_pickSlews 44 = .ok (.iadd, 1) := by decide +kernel
theorem dX4_pickSlews_45 : decode cX4_pickSlews 45 = .ok (.iaload, 1) := by decide +kernel
theorem dX4_pickSlews_46 : decode cX4_pickSlews 46 = .ok (.invokevirtual 105, 3) := by decide +kernel
theorem dX4_pickSlews_49 : decode cX4_pickSlews 49 = .ok (.iastore, 1) := by decide +kernel
theorem dX4_pickSlews_50 : decode cX4_pickSlews 50 = .ok (.aload_n 0, 1) := by decide +kernel
theorem dX4_pickSlews_51 : decode cX4_pickSlews 51 = .ok (.getfield 22, 3) := by decide +kernel
theorem dX4_pickSlews_54 : decode cX4_pickSlews 54 = .ok (.iload_n 3, 1) := by decide +kernel
theorem dX4_pickSlews_55 : decode cX4_pickSlews 55 = .ok (.iaload, 1) := by decide +kernel
theorem dX4_pickSlews_56 : decode cX4_pickSlews 56 = .ok (.istore_n 2, 1) := by decide +kernel
theorem dX4_pickSlews_57 : decode cX4_pickSlews 57 = .ok (.iinc 3 1, 3) := by decide +kernel
theorem dX4_pickSlews_60 : decode cX4_pickSlews 60 = .ok (.goto (-51), 3) := by decide +kernel
theorem dX4_pickSlews_63 : decode cX4_pickSlews 63 = .ok (.return_, 1) := by decide +kernel
def rmX4_pickSlews : Room := { frames := 3, cells := 0, slots := 0, locals := 74 }
def lpX4_pickSlews_9 (o0 : Nat) (Q : zM → Prop) : Nat → Int32 → Int32 → zM → Prop
  | 0, _, _, _ => False
  | fu9 + 1, x5, x6, M7 =>
    (((M7 (o0 + 1) 0) ≤ (x6 + (2 : Int32))) → (
    Q M7)) ∧
    ((¬ (M7 (o0 + 1) 0) ≤ (x6 + (2 : Int32))) → (
    vp_in x6 12 ∧
    vp_in (x6 + (1 : Int32)) 12 ∧
    wX4_pickNext M7 o0 x6 x5 (M7 (o0 + 7) x6.toNatClampNeg) (M7 (o0 + 7) (x6 + (1 : Int32)).toNatClampNeg) (fun r8 =>
    vp_in (x6 + (2 : Int32)) 12 ∧
    ∀ M9 : zM, M9 = va_up M7 (o0 + 7) (upd (M7 (o0 + 7)) (x6 + (2 : Int32)).toNatClampNeg r8) →
    vp_in x6 12 ∧
    ∀ x10 : Int32, x10 = x6 + (1 : Int32) →
    lpX4_pickSlews_9 o0 Q fu9 (M9 (o0 + 7) x6.toNatClampNeg) x10 M9)))
def wX4_pickSlews (M : zM) (o0 : Nat) (x1 : Int32) (Q : zM → Prop) : Prop :=
    wX4_pickFirst M o0 x1 (fun M4 =>
    ∃ fu9 : Nat, lpX4_pickSlews_9 o0 Q fu9 (0 : Int32) (0 : Int32) M4)
set_option maxHeartbeats 4000000 in
set_option maxRecDepth 100000 in
theorem kX4_pickSlews {l : Launch} {D : va_G} {Y : zY} {ad kd : Nat → Nat} {RL : List Nat} {M : zM} {J : zL} {o0 : Nat} {x1 : Int32} (h_o0 : kd o0 = 4) {Q : zM → Prop} (hq : wX4_pickSlews M o0 x1 Q) : zCv l yX4_pickSlews wsX4_pickSlews rmX4_pickSlews [.ref (ad o0), .int x1] D Y ad kd RL M J (fun M' J' => Q M' ∧ J = J') := by
  refine z_metv (cc := cX4_pickSlews) (maxL := 4) (ret := none) (by decide) rfl (Nat.le_of_ble_eq_true rfl) ?_
  intro p e s m below meth c ls A ar QE hQE hx hb hr hml hown hts hlk hw hl
  have hown : s.vm.findClass RX4 = some m.cls := hown
  have hl : lv_has ls 4 [(0, .ref (ad o0)), (1, .int x1)] := hl
  have hC := hw.2.2.2.2.2.1
  have g2 : ∀ w ∈ wsX20, w.before ar s = true := (fun w h => hts w (List.mem_cons_of_mem _ (List.mem_append_right _ h)))
  have g4 : ∀ w ∈ wsX40, w.before ar s = true := (fun w h => hts w (List.mem_cons_of_mem _ (List.mem_append_left _ (List.mem_append_right _ h))))
  have q1 := hts _ (List.mem_of_getElem? (i := 1) rfl)
  have q2 := hts _ (List.mem_of_getElem? (i := 2) rfl)
  have q3 := hts _ (List.mem_of_getElem? (i := 3) rfl)
  unfold wX4_pickSlews at hq
  refine lv_aload_n hx hb dX4_pickSlews_0 rfl (lv_at hl 0 rfl) ?_
  refine lv_iload_n hx hb dX4_pickSlews_1 rfl (lv_at hl 1 rfl) ?_
  refine z_cvv ⟨hx, hb, hml, hown, hts⟩ hw h_o0 (kX4_pickFirst h_o0 hq) (by decide) rfl (cwV 1 hts gX4_pickSlews_X4_pickFirst rfl rfl rfl (by decide +kernel) ⟨Nat.le_of_ble_eq_true rfl, Nat.le_of_ble_eq_true rfl⟩) rfl hl.1 rfl (Nat.le_of_ble_eq_true rfl) dX4_pickSlews_2 ⟨Nat.zero_le _, Nat.zero_le _⟩ (fun M4 J0 H locs hq hw => ?_)
  obtain ⟨hq, rfl⟩ := hq
  refine lv_iconst (v := (0 : Int32)) hx hb dX4_pickSlews_5 (by decide) ?_
  refine lv_istore_n (lv' := [(2, .int (0 : Int32)), (0, .ref (ad o0)), (1, .int x1)]) hx hb dX4_pickSlews_6 rfl hl (by decide) rfl (fun ls hl => ?_)
  refine lv_iconst (v := (0 : Int32)) hx hb dX4_pickSlews_7 (by decide) ?_
  refine lv_istore_n (lv' := [(3, .int (0 : Int32)), (2, .int (0 : Int32)), (0, .ref (ad o0)), (1, .int x1)]) hx hb dX4_pickSlews_8 rfl hl (by decide) rfl (fun ls hl => ?_)
  obtain ⟨fu9, hq⟩ := hq
  have lp9 : ∀ (fu9 : Nat) (x5 : Int32) (x6 : Int32) (M7 : zM) (H : Heap) (locs : List Loc) (ls : Array Slot), lpX4_pickSlews_9 o0 Q fu9 x5 x6 M7 → zH D Y ad kd RL M7 J A s.heap H locs s → lv_has ls 4 [(0, .ref (ad o0)), (2, .int x5), (3, .int x6)] → W p l e rmX4_pickSlews s m ar below meth c H locs 0 0 QE (F0 m 9 ls []) := by
    intro fu9
    induction fu9 with
    | zero => intro x5 x6 M7 H locs ls hq; exact hq.elim
    | succ fu9 ih9 =>
      intro x5 x6 M7 H locs ls hq hw hl
      unfold lpX4_pickSlews_9 at hq
      refine lv_iload_n hx hb dX4_pickSlews_9 rfl (lv_at hl 2 rfl) ?_
      refine lv_iconst (v := (2 : Int32)) hx hb dX4_pickSlews_10 (by decide) ?_
      refine lv_iadd hx hb dX4_pickSlews_11 ?_
      refine lv_aload_n hx hb dX4_pickSlews_12 rfl (lv_at hl 0 rfl) ?_
      refine zg4_known hx hb g4 hown hw h_o0 q1 dX4_pickSlews_13 ?_
      refine zg2_pegs hx hb g2 hown hw (zk_4_1 hC h_o0) q2 dX4_pickSlews_16 ?_
      refine lv_icmp_ge (tgt := 63) hx hb dX4_pickSlews_19 (by decide) (fun hc => ?_) (fun hc => ?_)
      · have hq := hq.1 hc
        exact z_vret hQE hx hb hr hlk hw dX4_pickSlews_63 ⟨hq, rfl⟩
      · have hq := hq.2 hc
        refine lv_aload_n hx hb dX4_pickSlews_22 rfl (lv_at hl 0 rfl) ?_
        refine zg4_slews hx hb g4 hown hw h_o0 q3 dX4_pickSlews_23 ?_
        refine lv_iload_n hx hb dX4_pickSlews_26 rfl (lv_at hl 2 rfl) ?_
        refine lv_iconst (v := (2 : Int32)) hx hb dX4_pickSlews_27 (by decide) ?_
        refine lv_iadd hx hb dX4_pickSlews_28 ?_
        refine lv_aload_n hx hb dX4_pickSlews_29 rfl (lv_at hl 0 rfl) ?_
        refine lv_iload_n hx hb dX4_pickSlews_30 rfl (lv_at hl 2 rfl) ?_
        refine lv_iload_n hx hb dX4_pickSlews_31 rfl (lv_at hl 1 rfl) ?_
        refine lv_aload_n hx hb dX4_pickSlews_32 rfl (lv_at hl 0 rfl) ?_
        refine zg4_slews hx hb g4 hown hw h_o0 q3 dX4_pickSlews_33 ?_
        refine lv_iload_n hx hb dX4_pickSlews_36 rfl (lv_at hl 2 rfl) ?_
        obtain ⟨hi, hq⟩ := hq
        refine z_iald (n := 12) hx hb hw (zk_4_7 hC h_o0) hi dX4_pickSlews_37 ?_
        refine lv_aload_n hx hb dX4_pickSlews_38 rfl (lv_at hl 0 rfl) ?_
        refine zg4_slews hx hb g4 hown hw h_o0 q3 dX4_pickSlews_39 ?_
        refine lv_iload_n hx hb dX4_pickSlews_42 rfl (lv_at hl 2 rfl) ?_
        refine lv_iconst (v := (1 : Int32)) hx hb dX4_pickSlews_43 (by decide) ?_
        refine lv_iadd hx hb dX4_pickSlews_44 ?_
        obtain ⟨hi, hq⟩ := hq
        refine z_iald (n := 12) hx hb hw (zk_4_7 hC h_o0) hi dX4_pickSlews_45 ?_
        refine z_cvi ⟨hx, hb, hml, hown, hts⟩ hw h_o0 (kX4_pickNext h_o0 hq) (by decide) rfl (cwV 4 hts gX4_pickSlews_X4_pickNext rfl rfl rfl (by decide +kernel) ⟨Nat.le_of_ble_eq_true rfl, Nat.le_of_ble_eq_true rfl⟩) rfl hl.1 rfl (Nat.le_of_ble_eq_true rfl) dX4_pickSlews_46 ⟨Nat.zero_le _, Nat.zero_le _⟩ (fun r8 M0 J0 H locs hq hw => ?_)
        obtain ⟨hq, rfl, rfl⟩ := hq
        obtain ⟨hi, hq⟩ := hq
        refine z_iast (n := 12) hx hb hw (zk_4_7 hC h_o0) hi dX4_pickSlews_49 (fun H locs hw => ?_)
        obtain ⟨M9, e_M9⟩ : ∃ y : zM, y = va_up M7 (o0 + 7) (upd (M7 (o0 + 7)) (x6 + (2 : Int32)).toNatClampNeg r8) := ⟨_, rfl⟩
        rw [← e_M9] at hw
        have hq := hq M9 e_M9
        refine lv_aload_n hx hb dX4_pickSlews_50 rfl (lv_at hl 0 rfl) ?_
        refine zg4_slews hx hb g4 hown hw h_o0 q3 dX4_pickSlews_51 ?_
        refine lv_iload_n hx hb dX4_pickSlews_54 rfl (lv_at hl 2 rfl) ?_
        obtain ⟨hi, hq⟩ := hq
        refine z_iald (n := 12) hx hb hw (zk_4_7 hC h_o0) hi dX4_pickSlews_55 ?_
        refine lv_istore_n (lv' := [(2, .int (M9 (o0 + 7) x6.toNatClampNeg)), (0, .ref (ad o0)), (3, .int x6)]) hx hb dX4_pickSlews_56 rfl hl (by decide) rfl (fun ls hl => ?_)
        obtain ⟨x10, e_x10⟩ : ∃ y : Int32, y = x6 + (1 : Int32) := ⟨_, rfl⟩
        have hq := hq x10 e_x10
        refine lv_iinc (v := x10) (lv' := [(3, .int x10), (2, .int (M9 (o0 + 7) x6.toNatClampNeg)), (0, .ref (ad o0))]) hx hb dX4_pickSlews_57 hl (k := 2) rfl (by rw [e_x10]; rfl) (by decide) rfl (fun ls hl => ?_)
        refine lv_goto (tgt := 9) hx hb dX4_pickSlews_60 (by decide) ?_
        exact ih9 (M9 (o0 + 7) x6.toNatClampNeg) x10 M9 _ _ _ hq hw (lv_sub hl [2, 1, 0] rfl)
  exact lp9 fu9 (0 : Int32) (0 : Int32) M4 _ _ _ hq hw (lv_sub hl [2, 1, 0] rfl)
set_option maxRecDepth 20000 in
theorem ggX4_solve_X2_isLike : GoodIn wsX4_solve wsX2_isLike := goodIn_r _ [10, 11, 12, 13, 14, 99, 100, 101, 102, 103, 104] (by decide +kernel) (by decide +kernel)
set_option maxRecDepth 20000 in
theorem gX4_solve_X2_isLike : GoodIn wsX4_solve (wsV RX4 38 RX2 yX2_isLike wsX2_isLike) := goodIn_app (goodIn_of _ (by decide +kernel)) ggX4_solve_X2_isLike
set_option maxRecDepth 20000 in
theorem ggX4_solve_X2_become : GoodIn wsX4_solve wsX2_become := goodIn_r _ [18, 11, 19, 12, 20, 21, 22, 23, 13, 14, 24, 99, 100, 101, 102, 103, 104] (by decide +kernel) (by decide +kernel)
set_option maxRecDepth 20000 in
theorem gX4_solve_X2_become : GoodIn wsX4_solve (wsV RX4 42 RX2 yX2_become wsX2_become) := goodIn_app (goodIn_of _ (by decide +kernel)) ggX4_solve_X2_become
set_option maxRecDepth 20000 in
theorem ggX4_solve_X4_fillTable : GoodIn wsX4_solve wsX4_fillTable := goodIn_r _ [29, 1, 30, 31, 32, 33, 34, 9, 35, 11, 12, 14, 36, 37, 38, 39, 40, 41, 42, 28, 43, 44, 45, 46, 47, 48, 49, 50, 51, 52, 53, 54, 55, 56, 57, 58, 59, 60, 61, 62, 63, 64, 65, 66, 67, 2, 92, 93, 94, 95, 96, 97, 98, 99, 100, 101, 102, 103, 104] (by decide +kernel) (by decide +kernel)
set_option maxRecDepth 20000 in
theorem gX4_solve_X4_fillTable : GoodIn wsX4_solve (wsV RX4 46 RX4 yX4_fillTable wsX4_fillTable) := goodIn_app (goodIn_of _ (by decide +kernel)) ggX4_solve_X4_fillTable
set_option maxRecDepth 20000 in
theorem ggX4_solve_X4_leastOfAll : GoodIn wsX4_solve wsX4_leastOfAll := goodIn_r _ [71, 1, 51, 72, 73, 38, 74, 32, 33, 34, 9, 35, 11, 12, 14, 36, 37, 39, 75, 76, 77, 28, 78, 31, 2, 52, 53, 54, 44, 45, 46, 92, 93, 94, 95, 96, 97, 98, 99, 100, 101, 102, 103, 104] (by decide +kernel) (by decide +kernel)
set_option maxRecDepth 20000 in
theorem gX4_solve_X4_leastOfAll : GoodIn wsX4_solve (wsV RX4 49 RX4 yX4_leastOfAll wsX4_leastOfAll) := goodIn_app (goodIn_of _ (by decide +kernel)) ggX4_solve_X4_leastOfAll
set_option maxRecDepth 20000 in
theorem ggX4_solve_X4_pickSlews : GoodIn wsX4_solve wsX4_pickSlews := goodIn_r _ [82, 1, 30, 83, 84, 85, 86, 28, 87, 32, 33, 34, 9, 35, 11, 12, 14, 36, 37, 38, 39, 75, 76, 77, 78, 31, 2, 52, 53, 54, 44, 45, 46, 88, 89, 90, 91, 59, 60, 61, 62, 63, 55, 56, 57, 58, 64, 65, 66, 67, 51, 92, 93, 94, 95, 96, 97, 98, 99, 100, 101, 102, 103, 104] (by decide +kernel) (by decide +kernel)
set_option maxRecDepth 20000 in
theorem gX4_solve_X4_pickSlews : GoodIn wsX4_solve (wsV RX4 53 RX4 yX4_pickSlews wsX4_pickSlews) := goodIn_app (goodIn_of _ (by decide +kernel)) ggX4_solve_X4_pickSlews
theorem dX4_solve_0 : decode cX4_solve 0 = .ok (.aload_n 0, 1) := by decide +kernel
theorem dX4_solve_1 : decode cX4_solve 1 = .ok (.getfield 12, 3) := by decide +kernel
theorem dX4_solve_4 : decode cX4_solve 4 = .ok (.aload_n 1, 1) := by decide +kernel
theorem dX4_solve_5 : decode cX4_solve 5 = .ok (.invokevirtual 38, 3) := by decide +kernel
theorem dX4_solve_8 : decode cX4_solve 8 = .ok (.ifCond .eq 4, 3) := by decide +kernel
theorem dX4_solve_11 : decode cX4_solve 11 = .ok (.return_, 1) := by decide +kernel
theorem dX4_solve_12 : decode cX4_solve 12 = .ok (.aload_n 0, 1) := by decide +kernel
theorem dX4_solve_13 : decode cX4_solve 13 = .ok (.getfield 12, 3) := by decide +kernel
theorem dX4_solve_16 : decode cX4_solve 16 = .ok (.aload_n 1, 1) := by decide +kernel
theorem dX4_solve_17 : decode cX4_solve 17 = .ok (.invokevirtual 42, 3) := by decide +kernel
theorem dX4_solve_20 : decode cX4_solve 20 = .ok (.aload_n 0, 1) := by decide +kernel
theorem dX4_solve_21 : decode cX4_solve 21 = .ok (.iconst (-1), 1) := by decide +kernel
theorem dX4_solve_22 : decode cX4_solve 22 = .ok (.putfield 35, 3) := by decide +kernel
theorem dX4_solve_25 : decode cX4_solve 25 = .ok (.aload_n 0, 1) := by decide +kernel
theorem dX4_solve_26 : decode cX4_solve 26 = .ok (.invokevirtual 46, 3) := by decide +kernel
theorem dX4_solve_29 : decode cX4_solve 29 = .ok (.aload_n 0, 1) := by decide +kernel
theorem dX4_solve_30 : decode cX4_solve 30 = .ok (.aload_n 0, 1) := by decide +kernel
theorem dX4_solve_31 : decode cX4_solve 31 = .ok (.invokevirtual 49, 3) := by decide +kernel
theorem dX4_solve_34 : decode cX4_solve 34 = .ok (.putfield 25, 3) := by decide +kernel
theorem dX4_solve_37 : decode cX4_solve 37 = .ok (.aload_n 0, 1) := by decide +kernel
theorem dX4_solve_38 : decode cX4_solve 38 = .ok (.aload_n 0, 1) := by decide +kernel
theorem dX4_solve_39 : decode cX4_solve 39 = .ok (.getfield 25, 3) := by decide +kernel
theorem dX4_solve_42 : decode cX4_solve 42 = .ok (.putfield 35, 3) := by decide +kernel
theorem dX4_solve_45 : decode cX4_solve 45 = .ok (.aload_n 0, 1) := by decide +kernel
theorem dX4_solve_46 : decode cX4_solve 46 = .ok (.invokevirtual 46, 3) := by decide +kernel
theorem dX4_solve_49 : decode cX4_solve 49 = .ok (.aload_n 0, 1) := by decide +kernel
theorem dX4_solve_50 : decode cX4_solve 50 = .ok (.invokevirtual 49, 3) := by decide +kernel
theorem dX4_solve_53 : decode cX4_solve 53 = .ok (.istore_n 2, 1) := by decide +kernel
theorem dX4_solve_54 : decode cX4_solve 54 = .ok (.aload_n 0, 1) := by decide +kernel
theorem dX4_solve_55 : decode cX4_solve 55 = .ok (.iload_n 2, 1) := by decide +kernel
theorem dX4_solve_56 : decode cX4_solve 56 = .ok (.bipush 64, 2) := by decide +kernel
theorem dX4_solve_58 : decode cX4_solve 58 = .ok (.idiv, 1) := by decide +kernel
theorem dX4_solve_59 : decode cX4_solve 59 = .ok (.putfield 29, 3) := by decide +kernel
theorem dX4_solve_62 : decode cX4_solve 62 = .ok (.aload_n 0, 1) := by decide +kernel
theorem dX4_solve_63 : decode cX4_solve 63 = .ok (.iload_n 2, 1) := by decide +kernel
theorem dX4_solve_64 : decode cX4_solve 64 = .ok (.bipush 64, 2) := by decide +kernel
theorem dX4_solve_66 : decode cX4_solve 66 = .ok (.irem, 1) := by decide +kernel
theorem dX4_solve_67 : decode cX4_solve 67 = .ok (.putfield 32, 3) := by decide +kernel
theorem dX4_solve_70 : decode cX4_solve 70 = .ok (.aload_n 0, 1) := by decide +kernel
theorem dX4_solve_71 : decode cX4_solve 71 = .ok (.iload_n 2, 1) := by decide +kernel
theorem dX4_solve_72 : decode cX4_solve 72 = .ok (.invokevirtual 53, 3) := by decide +kernel
theorem dX4_solve_75 : decode cX4_solve 75 = .ok (.return_, 1) := by decide +kernel
def rmX4_solve : Room := { frames := 5, cells := 0, slots := 0, locals := 125 }
def wX4_solve (M : zM) (o0 : Nat) (o1 : Nat) (Q : zM → Prop) : Prop :=
    wX2_isLike M (o0 + 1) o1 (fun r4 =>
    ((r4 = 0) → (
    wX2_become M (o0 + 1) o1 (fun M5 =>
    ∀ M6 : zM, M6 = va_up M5 o0 (upd (M5 o0) 3 (-1 : Int32)) →
    wX4_fillTable M6 o0 (fun M7 =>
    wX4_leastOfAll M7 o0 (fun r8 =>
    ∀ M9 : zM, M9 = va_up M7 o0 (upd (M7 o0) 0 r8) →
    ∀ M10 : zM, M10 = va_up M9 o0 (upd (M9 o0) 3 (M9 o0 0)) →
    wX4_fillTable M10 o0 (fun M11 =>
    wX4_leastOfAll M11 o0 (fun r12 =>
    ∀ M13 : zM, M13 = va_up M11 o0 (upd (M11 o0) 1 (r12 / (64 : Int32))) →
    ∀ M14 : zM, M14 = va_up M13 o0 (upd (M13 o0) 2 (r12 - r12 / (64 : Int32) * (64 : Int32))) →
    wX4_pickSlews M14 o0 r12 (fun M15 =>
    Q M15)))))))) ∧
    ((¬ r4 = 0) → (
    Q M)))
set_option maxHeartbeats 4000000 in
set_option maxRecDepth 100000 in
theorem kX4_solve {l : Launch} {D : va_G} {Y : zY} {ad kd : Nat → Nat} {RL : List Nat} {M : zM} {J : zL} {o0 : Nat} {o1 : Nat} (h_o0 : kd o0 = 4) (h_o1 : kd o1 = 2) {Q : zM → Prop} (hq : wX4_solve M o0 o1 Q) : zCv l yX4_solve wsX4_solve rmX4_solve [.ref (ad o0), .ref (ad o1)] D Y ad kd RL M J (fun M' J' => Q M' ∧ J = J') := by
  refine z_metv (cc := cX4_solve) (maxL := 3) (ret := none) (by decide) rfl (Nat.le_of_ble_eq_true rfl) ?_
  intro p e s m below meth c ls A ar QE hQE hx hb hr hml hown hts hlk hw hl
  have hown : s.vm.findClass RX4 = some m.cls := hown
  have hl : lv_has ls 3 [(0, .ref (ad o0)), (1, .ref (ad o1))] := hl
  have hC := hw.2.2.2.2.2.1
  have g4 : ∀ w ∈ wsX40, w.before ar s = true := (fun w h => hts w (List.mem_cons_of_mem _ (List.mem_append_left _ (List.mem_append_right _ h))))
  have q1 := hts _ (List.mem_of_getElem? (i := 1) rfl)
  have q2 := hts _ (List.mem_of_getElem? (i := 2) rfl)
  have q3 := hts _ (List.mem_of_getElem? (i := 3) rfl)
  have q4 := hts _ (List.mem_of_getElem? (i := 4) rfl)
  have q5 := hts _ (List.mem_of_getElem? (i := 5) rfl)
  unfold wX4_solve at hq
  refine lv_aload_n hx hb dX4_solve_0 rfl (lv_at hl 0 rfl) ?_
  refine zg4_known hx hb g4 hown hw h_o0 q1 dX4_solve_1 ?_
  refine lv_aload_n hx hb dX4_solve_4 rfl (lv_at hl 1 rfl) ?_
  refine z_cvi ⟨hx, hb, hml, hown, hts⟩ hw (zk_4_1 hC h_o0) (kX2_isLike (zk_4_1 hC h_o0) h_o1 hq) (by decide) rfl (cwV 1 hts gX4_solve_X2_isLike rfl rfl rfl (by decide +kernel) ⟨Nat.le_of_ble_eq_true rfl, Nat.le_of_ble_eq_true rfl⟩) rfl hl.1 rfl (Nat.le_of_ble_eq_true rfl) dX4_solve_5 ⟨Nat.zero_le _, Nat.zero_le _⟩ (fun r4 M0 J0 H locs hq hw => ?_)
  obtain ⟨hq, rfl, rfl⟩ := hq
  refine lv_if_eq (tgt := 12) hx hb dX4_solve_8 (by decide) (fun hc => ?_) (fun hc => ?_)
  · have hq := hq.1 hc
    refine lv_aload_n hx hb dX4_solve_12 rfl (lv_at hl 0 rfl) ?_
    refine zg4_known hx hb g4 hown hw h_o0 q1 dX4_solve_13 ?_
    refine lv_aload_n hx hb dX4_solve_16 rfl (lv_at hl 1 rfl) ?_
    refine z_cvv ⟨hx, hb, hml, hown, hts⟩ hw (zk_4_1 hC h_o0) (kX2_become (zk_4_1 hC h_o0) h_o1 hq) (by decide) rfl (cwV 1 hts gX4_solve_X2_become rfl rfl rfl (by decide +kernel) ⟨Nat.le_of_ble_eq_true rfl, Nat.le_of_ble_eq_true rfl⟩) rfl hl.1 rfl (Nat.le_of_ble_eq_true rfl) dX4_solve_17 ⟨Nat.zero_le _, Nat.zero_le _⟩ (fun M5 J0 H locs hq hw => ?_)
    obtain ⟨hq, rfl⟩ := hq
    refine lv_aload_n hx hb dX4_solve_20 rfl (lv_at hl 0 rfl) ?_
    refine lv_iconst (v := (-1 : Int32)) hx hb dX4_solve_21 (by decide) ?_
    refine zp4_limit hx hb g4 hown hw h_o0 q2 dX4_solve_22 (fun H locs hw => ?_)
    obtain ⟨M6, e_M6⟩ : ∃ y : zM, y = va_up M5 o0 (upd (M5 o0) 3 (-1 : Int32)) := ⟨_, rfl⟩
    rw [← e_M6] at hw
    have hq := hq M6 e_M6
    refine lv_aload_n hx hb dX4_solve_25 rfl (lv_at hl 0 rfl) ?_
    refine z_cvv ⟨hx, hb, hml, hown, hts⟩ hw h_o0 (kX4_fillTable h_o0 hq) (by decide) rfl (cwV 0 hts gX4_solve_X4_fillTable rfl rfl rfl (by decide +kernel) ⟨Nat.le_of_ble_eq_true rfl, Nat.le_of_ble_eq_true rfl⟩) rfl hl.1 rfl (Nat.le_of_ble_eq_true rfl) dX4_solve_26 ⟨Nat.zero_le _, Nat.zero_le _⟩ (fun M7 J0 H locs hq hw => ?_)
    obtain ⟨hq, rfl⟩ := hq
    refine lv_aload_n hx hb dX4_solve_29 rfl (lv_at hl 0 rfl) ?_
    refine lv_aload_n hx hb dX4_solve_30 rfl (lv_at hl 0 rfl) ?_
    refine z_cvi ⟨hx, hb, hml, hown, hts⟩ hw h_o0 (kX4_leastOfAll h_o0 hq) (by decide) rfl (cwV 0 hts gX4_solve_X4_leastOfAll rfl rfl rfl (by decide +kernel) ⟨Nat.le_of_ble_eq_true rfl, Nat.le_of_ble_eq_true rfl⟩) rfl hl.1 rfl (Nat.le_of_ble_eq_true rfl) dX4_solve_31 ⟨Nat.zero_le _, Nat.zero_le _⟩ (fun r8 M0 J0 H locs hq hw => ?_)
    obtain ⟨hq, rfl, rfl⟩ := hq
    refine zp4_worst hx hb g4 hown hw h_o0 q3 dX4_solve_34 (fun H locs hw => ?_)
    obtain ⟨M9, e_M9⟩ : ∃ y : zM, y = va_up M7 o0 (upd (M7 o0) 0 r8) := ⟨_, rfl⟩
    rw [← e_M9] at hw
    have hq := hq M9 e_M9
    refine lv_aload_n hx hb dX4_solve_37 rfl (lv_at hl 0 rfl) ?_
    refine lv_aload_n hx hb dX4_solve_38 rfl (lv_at hl 0 rfl) ?_
    refine zg4_worst hx hb g4 hown hw h_o0 q3 dX4_solve_39 ?_
    refine zp4_limit hx hb g4 hown hw h_o0 q2 dX4_solve_42 (fun H locs hw => ?_)
    obtain ⟨M10, e_M10⟩ : ∃ y : zM, y = va_up M9 o0 (upd (M9 o0) 3 (M9 o0 0)) := ⟨_, rfl⟩
    rw [← e_M10] at hw
    have hq := hq M10 e_M10
    refine lv_aload_n hx hb dX4_solve_45 rfl (lv_at hl 0 rfl) ?_
    refine z_cvv ⟨hx, hb, hml, hown, hts⟩ hw h_o0 (kX4_fillTable h_o0 hq) (by decide) rfl (cwV 0 hts gX4_solve_X4_fillTable rfl rfl rfl (by decide +kernel) ⟨Nat.le_of_ble_eq_true rfl, Nat.le_of_ble_eq_true rfl⟩) rfl hl.1 rfl (Nat.le_of_ble_eq_true rfl) dX4_solve_46 ⟨Nat.zero_le _, Nat.zero_le _⟩ (fun M11 J0 H locs hq hw => ?_)
    obtain ⟨hq, rfl⟩ := hq
    refine lv_aload_n hx hb dX4_solve_49 rfl (lv_at hl 0 rfl) ?_
    refine z_cvi ⟨hx, hb, hml, hown, hts⟩ hw h_o0 (kX4_leastOfAll h_o0 hq) (by decide) rfl (cwV 0 hts gX4_solve_X4_leastOfAll rfl rfl rfl (by decide +kernel) ⟨Nat.le_of_ble_eq_true rfl, Nat.le_of_ble_eq_true rfl⟩) rfl hl.1 rfl (Nat.le_of_ble_eq_true rfl) dX4_solve_50 ⟨Nat.zero_le _, Nat.zero_le _⟩ (fun r12 M0 J0 H locs hq hw => ?_)
    obtain ⟨hq, rfl, rfl⟩ := hq
    refine lv_istore_n (lv' := [(2, .int r12), (0, .ref (ad o0)), (1, .ref (ad o1))]) hx hb dX4_solve_53 rfl hl (by decide) rfl (fun ls hl => ?_)
    refine lv_aload_n hx hb dX4_solve_54 rfl (lv_at hl 1 rfl) ?_
    refine lv_iload_n hx hb dX4_solve_55 rfl (lv_at hl 0 rfl) ?_
    refine lv_bipush (v := (64 : Int32)) hx hb dX4_solve_56 (by decide) ?_
    refine lv_idiv hx hb dX4_solve_58 (by decide) ?_
    refine zp4_uneven hx hb g4 hown hw h_o0 q4 dX4_solve_59 (fun H locs hw => ?_)
    obtain ⟨M13, e_M13⟩ : ∃ y : zM, y = va_up M11 o0 (upd (M11 o0) 1 (r12 / (64 : Int32))) := ⟨_, rfl⟩
    rw [← e_M13] at hw
    have hq := hq M13 e_M13
    refine lv_aload_n hx hb dX4_solve_62 rfl (lv_at hl 1 rfl) ?_
    refine lv_iload_n hx hb dX4_solve_63 rfl (lv_at hl 0 rfl) ?_
    refine lv_bipush (v := (64 : Int32)) hx hb dX4_solve_64 (by decide) ?_
    refine lv_irem hx hb dX4_solve_66 (by decide) ?_
    refine zp4_moved hx hb g4 hown hw h_o0 q5 dX4_solve_67 (fun H locs hw => ?_)
    obtain ⟨M14, e_M14⟩ : ∃ y : zM, y = va_up M13 o0 (upd (M13 o0) 2 (r12 - r12 / (64 : Int32) * (64 : Int32))) := ⟨_, rfl⟩
    rw [← e_M14] at hw
    have hq := hq M14 e_M14
    refine lv_aload_n hx hb dX4_solve_70 rfl (lv_at hl 1 rfl) ?_
    refine lv_iload_n hx hb dX4_solve_71 rfl (lv_at hl 0 rfl) ?_
    refine z_cvv ⟨hx, hb, hml, hown, hts⟩ hw h_o0 (kX4_pickSlews h_o0 hq) (by decide) rfl (cwV 1 hts gX4_solve_X4_pickSlews rfl rfl rfl (by decide +kernel) ⟨Nat.le_of_ble_eq_true rfl, Nat.le_of_ble_eq_true rfl⟩) rfl hl.1 rfl (Nat.le_of_ble_eq_true rfl) dX4_solve_72 ⟨Nat.zero_le _, Nat.zero_le _⟩ (fun M15 J0 H locs hq hw => ?_)
    obtain ⟨hq, rfl⟩ := hq
    exact z_vret hQE hx hb hr hlk hw dX4_solve_75 ⟨hq, rfl⟩
  · have hq := hq.2 hc
    exact z_vret hQE hx hb hr hlk hw dX4_solve_11 ⟨hq, rfl⟩
