set_option maxRecDepth 20000 in
theorem ggX5_settles_X2_settledAt : GoodIn wsX5_settles wsX2_settledAt := goodIn_r _ [5, 6, 7, 8, 4, 9, 10, 11, 12, 13, 14, 15, 16, 18, 19, 20, 21, 22, 23] (by decide +kernel) (by decide +kernel)
set_option maxRecDepth 20000 in
theorem gX5_settles_X2_settledAt : GoodIn wsX5_settles (wsV RX5 50 RX2 yX2_settledAt wsX2_settledAt) := goodIn_app (goodIn_of _ (by decide +kernel)) ggX5_settles_X2_settledAt
set_option maxRecDepth 20000 in
theorem ggX5_settles_X2_slewAt : GoodIn wsX5_settles wsX2_slewAt := goodIn_r _ [9, 10, 11, 18, 19, 20, 21, 22, 23] (by decide +kernel) (by decide +kernel)
set_option maxRecDepth 20000 in
theorem gX5_settles_X2_slewAt : GoodIn wsX5_settles (wsV RX5 54 RX2 yX2_slewAt wsX2_slewAt) := goodIn_app (goodIn_of _ (by decide +kernel)) ggX5_settles_X2_slewAt
theorem dX5_settles_0 : decode cX5_settles 0 = .ok (.aload_n 0, 1) := by decide +kernel
theorem dX5_settles_1 : decode cX5_settles 1 = .ok (.iload_n 1, 1) := by decide +kernel
theorem dX5_settles_2 : decode cX5_settles 2 = .ok (.invokevirtual 50, 3) := by decide +kernel
theorem dX5_settles_5 : decode cX5_settles 5 = .ok (.aload_n 0, 1) := by decide +kernel
theorem dX5_settles_6 : decode cX5_settles 6 = .ok (.iload_n 1, 1) := by decide +kernel
theorem dX5_settles_7 : decode cX5_settles 7 = .ok (.invokevirtual 54, 3) := by decide +kernel
theorem dX5_settles_10 : decode cX5_settles 10 = .ok (.if_icmp .eq 7, 3) := by decide +kernel
theorem dX5_settles_13 : decode cX5_settles 13 = .ok (.iconst 1, 1) := by decide +kernel
theorem dX5_settles_14 : decode cX5_settles 14 = .ok (.goto 4, 3) := by decide +kernel
theorem dX5_settles_17 : decode cX5_settles 17 = .ok (.iconst 0, 1) := by decide +kernel
theorem dX5_settles_18 : decode cX5_settles 18 = .ok (.ireturn, 1) := by decide +kernel
def rmX5_settles : Room := { frames := 2, cells := 0, slots := 0, locals := 43 }
def wX5_settles (M : zM) (o0 : Nat) (x1 : Int32) (Q : Int32 → Prop) : Prop :=
    wX2_settledAt M o0 x1 (fun r4 =>
    wX2_slewAt M o0 x1 (fun r5 =>
    ((r4 = r5) → (
    Q (0 : Int32))) ∧
    ((¬ r4 = r5) → (
    Q (1 : Int32)))))
set_option maxHeartbeats 4000000 in
set_option maxRecDepth 100000 in
theorem kX5_settles {l : Launch} {D : va_G} {Y : zY} {ad kd : Nat → Nat} {RL : List Nat} {M : zM} {J : zL} {o0 : Nat} {x1 : Int32} (h_o0 : kd o0 = 2) {Q : Int32 → Prop} (hq : wX5_settles M o0 x1 Q) : zCi l yX5_settles wsX5_settles rmX5_settles [.ref (ad o0), .int x1] D Y ad kd RL M J (fun r M' J' => Q r ∧ M = M' ∧ J = J') := by
  refine z_meti (cc := cX5_settles) (maxL := 2) (ret := (some .boolean)) (by decide) rfl (Nat.le_of_ble_eq_true rfl) ?_
  intro p e s m below meth c ls A ar QE hQE hx hb hr hml hown hts hlk hw hl
  have hown : s.vm.findClass RX5 = some m.cls := hown
  have hl : lv_has ls 2 [(0, .ref (ad o0)), (1, .int x1)] := hl
  have hC := hw.2.2.2.2.2.1
  unfold wX5_settles at hq
  refine lv_aload_n hx hb dX5_settles_0 rfl (lv_at hl 0 rfl) ?_
  refine lv_iload_n hx hb dX5_settles_1 rfl (lv_at hl 1 rfl) ?_
  refine z_cvi ⟨hx, hb, hml, hown, hts⟩ hw h_o0 (kX2_settledAt h_o0 hq) (by decide) rfl (cwV 1 hts gX5_settles_X2_settledAt rfl rfl rfl (by decide +kernel) ⟨Nat.le_of_ble_eq_true rfl, Nat.le_of_ble_eq_true rfl⟩) rfl hl.1 rfl (Nat.le_of_ble_eq_true rfl) dX5_settles_2 ⟨Nat.zero_le _, Nat.zero_le _⟩ (fun r4 M0 J0 H locs hq hw => ?_)
  obtain ⟨hq, rfl, rfl⟩ := hq
  refine lv_aload_n hx hb dX5_settles_5 rfl (lv_at hl 0 rfl) ?_
  refine lv_iload_n hx hb dX5_settles_6 rfl (lv_at hl 1 rfl) ?_
  refine z_cvi ⟨hx, hb, hml, hown, hts⟩ hw h_o0 (kX2_slewAt h_o0 hq) (by decide) rfl (cwV 1 hts gX5_settles_X2_slewAt rfl rfl rfl (by decide +kernel) ⟨Nat.le_of_ble_eq_true rfl, Nat.le_of_ble_eq_true rfl⟩) rfl hl.1 rfl (Nat.le_of_ble_eq_true rfl) dX5_settles_7 ⟨Nat.zero_le _, Nat.zero_le _⟩ (fun r5 M0 J0 H locs hq hw => ?_)
  obtain ⟨hq, rfl, rfl⟩ := hq
  refine lv_icmp_eq (tgt := 17) hx hb dX5_settles_10 (by decide) (fun hc => ?_) (fun hc => ?_)
  · have hq := hq.1 hc
    refine lv_iconst (v := (0 : Int32)) hx hb dX5_settles_17 (by decide) ?_
    exact z_zret hQE hx hb hr hlk hw dX5_settles_18 (by decide) ⟨hq, rfl, rfl⟩
  · have hq := hq.2 hc
    refine lv_iconst (v := (1 : Int32)) hx hb dX5_settles_13 (by decide) ?_
    refine lv_goto (tgt := 18) hx hb dX5_settles_14 (by decide) ?_
    exact z_zret hQE hx hb hr hlk hw dX5_settles_18 (by decide) ⟨hq, rfl, rfl⟩
set_option maxRecDepth 20000 in
theorem ggX5_waysOf_X5_settles : GoodIn wsX5_waysOf wsX5_settles := goodIn_r _ [5, 6, 7, 8, 9, 10, 11, 12, 13, 14, 15, 16, 17, 18, 19, 20, 21, 22, 28, 29, 30, 31, 32, 33] (by decide +kernel) (by decide +kernel)
set_option maxRecDepth 20000 in
theorem gX5_waysOf_X5_settles : GoodIn wsX5_waysOf (va_wsS RX5 40 yX5_settles wsX5_settles) := goodIn_app (goodIn_of _ (by decide +kernel)) ggX5_waysOf_X5_settles
theorem dX5_waysOf_0 : decode cX5_waysOf 0 = .ok (.aload_n 1, 1) := by decide +kernel
theorem dX5_waysOf_1 : decode cX5_waysOf 1 = .ok (.iload_n 2, 1) := by decide +kernel
theorem dX5_waysOf_2 : decode cX5_waysOf 2 = .ok (.invokestatic 40, 3) := by decide +kernel
theorem dX5_waysOf_5 : decode cX5_waysOf 5 = .ok (.ifCond .ne 7, 3) := by decide +kernel
theorem dX5_waysOf_8 : decode cX5_waysOf 8 = .ok (.iconst 1, 1) := by decide +kernel
theorem dX5_waysOf_9 : decode cX5_waysOf 9 = .ok (.iload_n 3, 1) := by decide +kernel
theorem dX5_waysOf_10 : decode cX5_waysOf 10 = .ok (.isub, 1) := by decide +kernel
theorem dX5_waysOf_11 : decode cX5_waysOf 11 = .ok (.ireturn, 1) := by decide +kernel
theorem dX5_waysOf_12 : decode cX5_waysOf 12 = .ok (.iload_n 3, 1) := by decide +kernel
theorem dX5_waysOf_13 : decode cX5_waysOf 13 = .ok (.ifCond .ne 13, 3) := by decide +kernel
theorem dX5_waysOf_16 : decode cX5_waysOf 16 = .ok (.bipush 10, 2) := by decide +kernel
theorem dX5_waysOf_18 : decode cX5_waysOf 18 = .ok (.aload_n 0, 1) := by decide +kernel
theorem dX5_waysOf_19 : decode cX5_waysOf 19 = .ok (.getfield 23, 3) := by decide +kernel
theorem dX5_waysOf_22 : decode cX5_waysOf 22 = .ok (.isub, 1) := by decide +kernel
theorem dX5_waysOf_23 : decode cX5_waysOf 23 = .ok (.goto 7, 3) := by decide +kernel
theorem dX5_waysOf_26 : decode cX5_waysOf 26 = .ok (.aload_n 0, 1) := by decide +kernel
theorem dX5_waysOf_27 : decode cX5_waysOf 27 = .ok (.getfield 23, 3) := by decide +kernel
theorem dX5_waysOf_30 : decode cX5_waysOf 30 = .ok (.ireturn, 1) := by decide +kernel
def rmX5_waysOf : Room := { frames := 3, cells := 0, slots := 0, locals := 64 }
def wX5_waysOf (M : zM) (o0 : Nat) (o1 : Nat) (x2 : Int32) (x3 : Int32) (Q : Int32 → Prop) : Prop :=
    wX5_settles M o1 x2 (fun r6 =>
    ((¬ r6 = 0) → (
    ((¬ x3 = 0) → (
    Q (M o0 0))) ∧
    ((x3 = 0) → (
    Q ((10 : Int32) - (M o0 0)))))) ∧
    ((r6 = 0) → (
    Q ((1 : Int32) - x3))))
set_option maxHeartbeats 4000000 in
set_option maxRecDepth 100000 in
theorem kX5_waysOf {l : Launch} {D : va_G} {Y : zY} {ad kd : Nat → Nat} {RL : List Nat} {M : zM} {J : zL} {o0 : Nat} {o1 : Nat} {x2 : Int32} {x3 : Int32} (h_o0 : kd o0 = 5) (h_o1 : kd o1 = 2) {Q : Int32 → Prop} (hq : wX5_waysOf M o0 o1 x2 x3 Q) : zCi l yX5_waysOf wsX5_waysOf rmX5_waysOf [.ref (ad o0), .ref (ad o1), .int x2, .int x3] D Y ad kd RL M J (fun r M' J' => Q r ∧ M = M' ∧ J = J') := by
  refine z_meti (cc := cX5_waysOf) (maxL := 4) (ret := (some .int)) (by decide) rfl (Nat.le_of_ble_eq_true rfl) ?_
  intro p e s m below meth c ls A ar QE hQE hx hb hr hml hown hts hlk hw hl
  have hown : s.vm.findClass RX5 = some m.cls := hown
  have hl : lv_has ls 4 [(0, .ref (ad o0)), (1, .ref (ad o1)), (2, .int x2), (3, .int x3)] := hl
  have hC := hw.2.2.2.2.2.1
  have g5 : ∀ w ∈ wsX50, w.before ar s = true := (fun w h => hts w (List.mem_cons_of_mem _ (List.mem_append_left _ (List.mem_append_right _ h))))
  have q1 := hts _ (List.mem_of_getElem? (i := 1) rfl)
  unfold wX5_waysOf at hq
  refine lv_aload_n hx hb dX5_waysOf_0 rfl (lv_at hl 1 rfl) ?_
  refine lv_iload_n hx hb dX5_waysOf_1 rfl (lv_at hl 2 rfl) ?_
  refine z_csi ⟨hx, hb, hml, hown, hts⟩ hw (kX5_settles h_o1 hq) (va_cwS 2 hts gX5_waysOf_X5_settles rfl rfl rfl (by decide +kernel) ⟨Nat.le_of_ble_eq_true rfl, Nat.le_of_ble_eq_true rfl⟩) rfl hl.1 rfl (Nat.le_of_ble_eq_true rfl) dX5_waysOf_2 ⟨Nat.zero_le _, Nat.zero_le _⟩ (fun r6 M0 J0 H locs hq hw => ?_)
  obtain ⟨hq, rfl, rfl⟩ := hq
  refine lv_if_ne (tgt := 12) hx hb dX5_waysOf_5 (by decide) (fun hc => ?_) (fun hc => ?_)
  · have hq := hq.1 hc
    refine lv_iload_n hx hb dX5_waysOf_12 rfl (lv_at hl 3 rfl) ?_
    refine lv_if_ne (tgt := 26) hx hb dX5_waysOf_13 (by decide) (fun hc => ?_) (fun hc => ?_)
    · have hq := hq.1 hc
      refine lv_aload_n hx hb dX5_waysOf_26 rfl (lv_at hl 0 rfl) ?_
      refine zg5_settled hx hb g5 hown hw h_o0 q1 dX5_waysOf_27 ?_
      exact z_iret hQE hx hb hr hlk hw dX5_waysOf_30 ⟨hq, rfl, rfl⟩
    · have hq := hq.2 hc
      refine lv_bipush (v := (10 : Int32)) hx hb dX5_waysOf_16 (by decide) ?_
      refine lv_aload_n hx hb dX5_waysOf_18 rfl (lv_at hl 0 rfl) ?_
      refine zg5_settled hx hb g5 hown hw h_o0 q1 dX5_waysOf_19 ?_
      refine lv_isub hx hb dX5_waysOf_22 ?_
      refine lv_goto (tgt := 30) hx hb dX5_waysOf_23 (by decide) ?_
      exact z_iret hQE hx hb hr hlk hw dX5_waysOf_30 ⟨hq, rfl, rfl⟩
  · have hq := hq.2 hc
    refine lv_iconst (v := (1 : Int32)) hx hb dX5_waysOf_8 (by decide) ?_
    refine lv_iload_n hx hb dX5_waysOf_9 rfl (lv_at hl 3 rfl) ?_
    refine lv_isub hx hb dX5_waysOf_10 ?_
    exact z_iret hQE hx hb hr hlk hw dX5_waysOf_11 ⟨hq, rfl, rfl⟩
set_option maxRecDepth 20000 in
theorem ggX5_slewBy_X2_slewAt : GoodIn wsX5_slewBy wsX2_slewAt := goodIn_r _ [5, 6, 7, 18, 19, 20, 21, 22, 23] (by decide +kernel) (by decide +kernel)
set_option maxRecDepth 20000 in
theorem gX5_slewBy_X2_slewAt : GoodIn wsX5_slewBy (wsV RX5 54 RX2 yX2_slewAt wsX2_slewAt) := goodIn_app (goodIn_of _ (by decide +kernel)) ggX5_slewBy_X2_slewAt
set_option maxRecDepth 20000 in
theorem ggX5_slewBy_X2_settledAt : GoodIn wsX5_slewBy wsX2_settledAt := goodIn_r _ [11, 12, 2, 3, 4, 5, 6, 7, 13, 14, 15, 16, 17, 18, 19, 20, 21, 22, 23] (by decide +kernel) (by decide +kernel)
set_option maxRecDepth 20000 in
theorem gX5_slewBy_X2_settledAt : GoodIn wsX5_slewBy (wsV RX5 50 RX2 yX2_settledAt wsX2_settledAt) := goodIn_app (goodIn_of _ (by decide +kernel)) ggX5_slewBy_X2_settledAt
theorem dX5_slewBy_0 : decode cX5_slewBy 0 = .ok (.iload_n 2, 1) := by decide +kernel
theorem dX5_slewBy_1 : decode cX5_slewBy 1 = .ok (.ifCond .ne 11, 3) := by decide +kernel
theorem dX5_slewBy_4 : decode cX5_slewBy 4 = .ok (.aload_n 0, 1) := by decide +kernel
theorem dX5_slewBy_5 : decode cX5_slewBy 5 = .ok (.iload_n 1, 1) := by decide +kernel
theorem dX5_slewBy_6 : decode cX5_slewBy 6 = .ok (.invokevirtual 54, 3) := by decide +kernel
theorem dX5_slewBy_9 : decode cX5_slewBy 9 = .ok (.goto 8, 3) := by decide +kernel
theorem dX5_slewBy_12 : decode cX5_slewBy 12 = .ok (.aload_n 0, 1) := by decide +kernel
theorem dX5_slewBy_13 : decode cX5_slewBy 13 = .ok (.iload_n 1, 1) := by decide +kernel
theorem dX5_slewBy_14 : decode cX5_slewBy 14 = .ok (.invokevirtual 50, 3) := by decide +kernel
theorem dX5_slewBy_17 : decode cX5_slewBy 17 = .ok (.ireturn, 1) := by decide +kernel
def rmX5_slewBy : Room := { frames := 2, cells := 0, slots := 0, locals := 43 }
def wX5_slewBy (M : zM) (o0 : Nat) (x1 : Int32) (x2 : Int32) (Q : Int32 → Prop) : Prop :=
    ((¬ x2 = 0) → (
    wX2_settledAt M o0 x1 (fun r5 =>
    Q r5))) ∧
    ((x2 = 0) → (
    wX2_slewAt M o0 x1 (fun r6 =>
    Q r6)))
set_option maxHeartbeats 4000000 in
set_option maxRecDepth 100000 in
theorem kX5_slewBy {l : Launch} {D : va_G} {Y : zY} {ad kd : Nat → Nat} {RL : List Nat} {M : zM} {J : zL} {o0 : Nat} {x1 : Int32} {x2 : Int32} (h_o0 : kd o0 = 2) {Q : Int32 → Prop} (hq : wX5_slewBy M o0 x1 x2 Q) : zCi l yX5_slewBy wsX5_slewBy rmX5_slewBy [.ref (ad o0), .int x1, .int x2] D Y ad kd RL M J (fun r M' J' => Q r ∧ M = M' ∧ J = J') := by
  refine z_meti (cc := cX5_slewBy) (maxL := 3) (ret := (some .int)) (by decide) rfl (Nat.le_of_ble_eq_true rfl) ?_
  intro p e s m below meth c ls A ar QE hQE hx hb hr hml hown hts hlk hw hl
  have hown : s.vm.findClass RX5 = some m.cls := hown
  have hl : lv_has ls 3 [(0, .ref (ad o0)), (1, .int x1), (2, .int x2)] := hl
  have hC := hw.2.2.2.2.2.1
  unfold wX5_slewBy at hq
  refine lv_iload_n hx hb dX5_slewBy_0 rfl (lv_at hl 2 rfl) ?_
  refine lv_if_ne (tgt := 12) hx hb dX5_slewBy_1 (by decide) (fun hc => ?_) (fun hc => ?_)
  · have hq := hq.1 hc
    refine lv_aload_n hx hb dX5_slewBy_12 rfl (lv_at hl 0 rfl) ?_
    refine lv_iload_n hx hb dX5_slewBy_13 rfl (lv_at hl 1 rfl) ?_
    refine z_cvi ⟨hx, hb, hml, hown, hts⟩ hw h_o0 (kX2_settledAt h_o0 hq) (by decide) rfl (cwV 1 hts gX5_slewBy_X2_settledAt rfl rfl rfl (by decide +kernel) ⟨Nat.le_of_ble_eq_true rfl, Nat.le_of_ble_eq_true rfl⟩) rfl hl.1 rfl (Nat.le_of_ble_eq_true rfl) dX5_slewBy_14 ⟨Nat.zero_le _, Nat.zero_le _⟩ (fun r5 M0 J0 H locs hq hw => ?_)
    obtain ⟨hq, rfl, rfl⟩ := hq
    exact z_iret hQE hx hb hr hlk hw dX5_slewBy_17 ⟨hq, rfl, rfl⟩
  · have hq := hq.2 hc
    refine lv_aload_n hx hb dX5_slewBy_4 rfl (lv_at hl 0 rfl) ?_
    refine lv_iload_n hx hb dX5_slewBy_5 rfl (lv_at hl 1 rfl) ?_
    refine z_cvi ⟨hx, hb, hml, hown, hts⟩ hw h_o0 (kX2_slewAt h_o0 hq) (by decide) rfl (cwV 1 hts gX5_slewBy_X2_slewAt rfl rfl rfl (by decide +kernel) ⟨Nat.le_of_ble_eq_true rfl, Nat.le_of_ble_eq_true rfl⟩) rfl hl.1 rfl (Nat.le_of_ble_eq_true rfl) dX5_slewBy_6 ⟨Nat.zero_le _, Nat.zero_le _⟩ (fun r6 M0 J0 H locs hq hw => ?_)
    obtain ⟨hq, rfl, rfl⟩ := hq
    refine lv_goto (tgt := 17) hx hb dX5_slewBy_9 (by decide) ?_
    exact z_iret hQE hx hb hr hlk hw dX5_slewBy_17 ⟨hq, rfl, rfl⟩
set_option maxRecDepth 20000 in
theorem ggX5_stepBy_X2_isEased : GoodIn wsX5_stepBy wsX2_isEased := goodIn_r _ [10, 11, 12, 31, 32, 33, 34, 35, 36] (by decide +kernel) (by decide +kernel)
set_option maxRecDepth 20000 in
theorem gX5_stepBy_X2_isEased : GoodIn wsX5_stepBy (wsV RX5 70 RX2 yX2_isEased wsX2_isEased) := goodIn_app (goodIn_of _ (by decide +kernel)) ggX5_stepBy_X2_isEased
set_option maxRecDepth 20000 in
theorem ggX5_stepBy_X5_slewBy : GoodIn wsX5_stepBy wsX5_slewBy := goodIn_r _ [16, 17, 18, 19, 9, 20, 11, 21, 22, 23, 24, 25, 26, 27, 28, 29, 30, 12, 31, 32, 33, 34, 35, 36] (by decide +kernel) (by decide +kernel)
set_option maxRecDepth 20000 in
theorem gX5_stepBy_X5_slewBy : GoodIn wsX5_stepBy (va_wsS RX5 74 yX5_slewBy wsX5_slewBy) := goodIn_app (goodIn_of _ (by decide +kernel)) ggX5_stepBy_X5_slewBy
theorem dX5_stepBy_0 : decode cX5_stepBy 0 = .ok (.aload_n 0, 1) := by decide +kernel
theorem dX5_stepBy_1 : decode cX5_stepBy 1 = .ok (.iload_n 1, 1) := by decide +kernel
theorem dX5_stepBy_2 : decode cX5_stepBy 2 = .ok (.invokevirtual 70, 3) := by decide +kernel
theorem dX5_stepBy_5 : decode cX5_stepBy 5 = .ok (.ifCond .eq 5, 3) := by decide +kernel
theorem dX5_stepBy_8 : decode cX5_stepBy 8 = .ok (.iconst 0, 1) := by decide +kernel
theorem dX5_stepBy_9 : decode cX5_stepBy 9 = .ok (.ireturn, 1) := by decide +kernel
theorem dX5_stepBy_10 : decode cX5_stepBy 10 = .ok (.aload_n 0, 1) := by decide +kernel
theorem dX5_stepBy_11 : decode cX5_stepBy 11 = .ok (.iload_n 1, 1) := by decide +kernel
theorem dX5_stepBy_12 : decode cX5_stepBy 12 = .ok (.iconst 1, 1) := by decide +kernel
theorem dX5_stepBy_13 : decode cX5_stepBy 13 = .ok (.isub, 1) := by decide +kernel
theorem dX5_stepBy_14 : decode cX5_stepBy 14 = .ok (.iload_n 2, 1) := by decide +kernel
theorem dX5_stepBy_15 : decode cX5_stepBy 15 = .ok (.iconst 3, 1) := by decide +kernel
theorem dX5_stepBy_16 : decode cX5_stepBy 16 = .ok (.ishr, 1) := by decide +kernel
theorem dX5_stepBy_17 : decode cX5_stepBy 17 = .ok (.iconst 1, 1) := by decide +kernel
theorem dX5_stepBy_18 : decode cX5_stepBy 18 = .ok (.iand, 1) := by decide +kernel
theorem dX5_stepBy_19 : decode cX5_stepBy 19 = .ok (.invokestatic 74, 3) := by decide +kernel
theorem dX5_stepBy_22 : decode cX5_stepBy 22 = .ok (.istore_n 3, 1) := by decide +kernel
theorem dX5_stepBy_23 : decode cX5_stepBy 23 = .ok (.aload_n 0, 1) := by decide +kernel
theorem dX5_stepBy_24 : decode cX5_stepBy 24 = .ok (.iload_n 1, 1) := by decide +kernel
theorem dX5_stepBy_25 : decode cX5_stepBy 25 = .ok (.iload_n 2, 1) := by decide +kernel
theorem dX5_stepBy_26 : decode cX5_stepBy 26 = .ok (.iconst 2, 1) := by decide +kernel
theorem dX5_stepBy_27 : decode cX5_stepBy 27 = .ok (.ishr, 1) := by decide +kernel
theorem dX5_stepBy_28 : decode cX5_stepBy 28 = .ok (.iconst 1, 1) := by decide +kernel
theorem dX5_stepBy_29 : decode cX5_stepBy 29 = .ok (.iand, 1) := by decide +kernel
theorem dX5_stepBy_30 : decode cX5_stepBy 30 = .ok (.invokestatic 74, 3) := by decide +kernel
theorem dX5_stepBy_33 : decode cX5_stepBy 33 = .ok (.istore 4, 2) := by decide +kernel
theorem dX5_stepBy_35 : decode cX5_stepBy 35 = .ok (.aload_n 0, 1) := by decide +kernel
theorem dX5_stepBy_36 : decode cX5_stepBy 36 = .ok (.iload_n 1, 1) := by decide +kernel
theorem dX5_stepBy_37 : decode cX5_stepBy 37 = .ok (.iconst 1, 1) := by decide +kernel
theorem dX5_stepBy_38 : decode cX5_stepBy 38 = .ok (.iadd, 1) := by decide +kernel
theorem dX5_stepBy_39 : decode cX5_stepBy 39 = .ok (.iload_n 2, 1) := by decide +kernel
theorem dX5_stepBy_40 : decode cX5_stepBy 40 = .ok (.iconst 1, 1) := by decide +kernel
theorem dX5_stepBy_41 : decode cX5_stepBy 41 = .ok (.ishr, 1) := by decide +kernel
theorem dX5_stepBy_42 : decode cX5_stepBy 42 = .ok (.iconst 1, 1) := by decide +kernel
theorem dX5_stepBy_43 : decode cX5_stepBy 43 = .ok (.iand, 1) := by decide +kernel
theorem dX5_stepBy_44 : decode cX5_stepBy 44 = .ok (.invokestatic 74, 3) := by decide +kernel
theorem dX5_stepBy_47 : decode cX5_stepBy 47 = .ok (.istore 5, 2) := by decide +kernel
theorem dX5_stepBy_49 : decode cX5_stepBy 49 = .ok (.aload_n 0, 1) := by decide +kernel
theorem dX5_stepBy_50 : decode cX5_stepBy 50 = .ok (.iload_n 1, 1) := by decide +kernel
theorem dX5_stepBy_51 : decode cX5_stepBy 51 = .ok (.iconst 2, 1) := by decide +kernel
theorem dX5_stepBy_52 : decode cX5_stepBy 52 = .ok (.iadd, 1) := by decide +kernel
theorem dX5_stepBy_53 : decode cX5_stepBy 53 = .ok (.iload_n 2, 1) := by decide +kernel
theorem dX5_stepBy_54 : decode cX5_stepBy 54 = .ok (.iconst 1, 1) := by decide +kernel
theorem dX5_stepBy_55 : decode cX5_stepBy 55 = .ok (.iand, 1) := by decide +kernel
theorem dX5_stepBy_56 : decode cX5_stepBy 56 = .ok (.invokestatic 74, 3) := by decide +kernel
theorem dX5_stepBy_59 : decode cX5_stepBy 59 = .ok (.istore 6, 2) := by decide +kernel
theorem dX5_stepBy_61 : decode cX5_stepBy 61 = .ok (.aload_n 0, 1) := by decide +kernel
theorem dX5_stepBy_62 : decode cX5_stepBy 62 = .ok (.getfield 77, 3) := by decide +kernel
theorem dX5_stepBy_65 : decode cX5_stepBy 65 = .ok (.iload_n 1, 1) := by decide +kernel
theorem dX5_stepBy_66 : decode cX5_stepBy 66 = .ok (.iaload, 1) := by decide +kernel
theorem dX5_stepBy_67 : decode cX5_stepBy 67 = .ok (.aload_n 0, 1) := by decide +kernel
theorem dX5_stepBy_68 : decode cX5_stepBy 68 = .ok (.getfield 77, 3) := by decide +kernel
theorem dX5_stepBy_71 : decode cX5_stepBy 71 = .ok (.iload_n 1, 1) := by decide +kernel
theorem dX5_stepBy_72 : decode cX5_stepBy 72 = .ok (.iconst 1, 1) := by decide +kernel
theorem dX5_stepBy_73 : decode cX5_stepBy 73 = .ok (.iadd, 1) := by decide +kernel
theorem dX5_stepBy_74 : decode cX5_stepBy 74 = .ok (.iaload, 1) := by decide +kernel
theorem dX5_stepBy_75 : decode cX5_stepBy 75 = .ok (.isub, 1) := by decide +kernel
theorem dX5_stepBy_76 : decode cX5_stepBy 76 = .ok (.iconst 3, 1) := by decide +kernel
theorem dX5_stepBy_77 : decode cX5_stepBy 77 = .ok (.iload 4, 2) := by decide +kernel
theorem dX5_stepBy_79 : decode cX5_stepBy 79 = .ok (.iload 5, 2) := by decide +kernel
theorem dX5_stepBy_81 : decode cX5_stepBy 81 = .ok (.isub, 1) := by decide +kernel
theorem dX5_stepBy_82 : decode cX5_stepBy 82 = .ok (.imul, 1) := by decide +kernel
theorem dX5_stepBy_83 : decode cX5_stepBy 83 = .ok (.iadd, 1) := by decide +kernel
theorem dX5_stepBy_84 : decode cX5_stepBy 84 = .ok (.iload_n 3, 1) := by decide +kernel
theorem dX5_stepBy_85 : decode cX5_stepBy 85 = .ok (.isub, 1) := by decide +kernel
theorem dX5_stepBy_86 : decode cX5_stepBy 86 = .ok (.iload 6, 2) := by decide +kernel
theorem dX5_stepBy_88 : decode cX5_stepBy 88 = .ok (.iadd, 1) := by decide +kernel
theorem dX5_stepBy_89 : decode cX5_stepBy 89 = .ok (.invokestatic 81, 3) := by decide +kernel
theorem dX5_stepBy_92 : decode cX5_stepBy 92 = .ok (.ireturn, 1) := by decide +kernel
def rmX5_stepBy : Room := { frames := 3, cells := 0, slots := 0, locals := 65 }
def wX5_stepBy (M : zM) (o0 : Nat) (x1 : Int32) (x2 : Int32) (Q : Int32 → Prop) : Prop :=
    wX2_isEased M o0 x1 (fun r5 =>
    ((r5 = 0) → (
    ∀ x6 : Int32, x6 = ((x2 >>> ((3 : Int32) &&& 31)) &&& (1 : Int32)) →
    wX5_slewBy M o0 (x1 - (1 : Int32)) x6 (fun r7 =>
    ∀ x8 : Int32, x8 = ((x2 >>> ((2 : Int32) &&& 31)) &&& (1 : Int32)) →
    wX5_slewBy M o0 x1 x8 (fun r9 =>
    ∀ x10 : Int32, x10 = ((x2 >>> ((1 : Int32) &&& 31)) &&& (1 : Int32)) →
    wX5_slewBy M o0 (x1 + (1 : Int32)) x10 (fun r11 =>
    wX5_slewBy M o0 (x1 + (2 : Int32)) (x2 &&& (1 : Int32)) (fun r12 =>
    vp_in x1 12 ∧
    vp_in (x1 + (1 : Int32)) 12 ∧
    ∀ x13 : Int32, x13 = ((M (o0 + 2) x1.toNatClampNeg) - (M (o0 + 2) (x1 + (1 : Int32)).toNatClampNeg)) →
    ∀ x14 : Int32, x14 = (((x13 + ((3 : Int32) * (r9 - r11))) - r7) + r12) →
    Q (zabs x14))))))) ∧
    ((¬ r5 = 0) → (
    Q (0 : Int32))))
set_option maxHeartbeats 4000000 in
set_option maxRecDepth 100000 in
theorem kX5_stepBy {l : Launch} {D : va_G} {Y : zY} {ad kd : Nat → Nat} {RL : List Nat} {M : zM} {J : zL} {o0 : Nat} {x1 : Int32} {x2 : Int32} (h_o0 : kd o0 = 2) {Q : Int32 → Prop} (hq : wX5_stepBy M o0 x1 x2 Q) : zCi l yX5_stepBy wsX5_stepBy rmX5_stepBy [.ref (ad o0), .int x1, .int x2] D Y ad kd RL M J (fun r M' J' => Q r ∧ M = M' ∧ J = J') := by
  refine z_meti (cc := cX5_stepBy) (maxL := 7) (ret := (some .int)) (by decide) rfl (Nat.le_of_ble_eq_true rfl) ?_
  intro p e s m below meth c ls A ar QE hQE hx hb hr hml hown hts hlk hw hl
  have hown : s.vm.findClass RX5 = some m.cls := hown
  have hl : lv_has ls 7 [(0, .ref (ad o0)), (1, .int x1), (2, .int x2)] := hl
  have hC := hw.2.2.2.2.2.1
  have g2 : ∀ w ∈ wsX20, w.before ar s = true := (fun w h => hts w (List.mem_cons_of_mem _ (List.mem_append_right _ h)))
  have q1 := hts _ (List.mem_of_getElem? (i := 1) rfl)
  have q2 := hts _ (List.mem_of_getElem? (i := 2) rfl)
  have q3 := hts _ (List.mem_of_getElem? (i := 3) rfl)
  have q4 := hts _ (List.mem_of_getElem? (i := 4) rfl)
  have q5 := hts _ (List.mem_of_getElem? (i := 5) rfl)
  unfold wX5_stepBy at hq
  refine lv_aload_n hx hb dX5_stepBy_0 rfl (lv_at hl 0 rfl) ?_
  refine lv_iload_n hx hb dX5_stepBy_1 rfl (lv_at hl 1 rfl) ?_
  refine z_cvi ⟨hx, hb, hml, hown, hts⟩ hw h_o0 (kX2_isEased h_o0 hq) (by decide) rfl (cwV 1 hts gX5_stepBy_X2_isEased rfl rfl rfl (by decide +kernel) ⟨Nat.le_of_ble_eq_true rfl, Nat.le_of_ble_eq_true rfl⟩) rfl hl.1 rfl (Nat.le_of_ble_eq_true rfl) dX5_stepBy_2 ⟨Nat.zero_le _, Nat.zero_le _⟩ (fun r5 M0 J0 H locs hq hw => ?_)
  obtain ⟨hq, rfl, rfl⟩ := hq
  refine lv_if_eq (tgt := 10) hx hb dX5_stepBy_5 (by decide) (fun hc => ?_) (fun hc => ?_)
  · have hq := hq.1 hc
    refine lv_aload_n hx hb dX5_stepBy_10 rfl (lv_at hl 0 rfl) ?_
    refine lv_iload_n hx hb dX5_stepBy_11 rfl (lv_at hl 1 rfl) ?_
    refine lv_iconst (v := (1 : Int32)) hx hb dX5_stepBy_12 (by decide) ?_
    refine lv_isub hx hb dX5_stepBy_13 ?_
    refine lv_iload_n hx hb dX5_stepBy_14 rfl (lv_at hl 2 rfl) ?_
    refine lv_iconst (v := (3 : Int32)) hx hb dX5_stepBy_15 (by decide) ?_
    refine lv_ishr hx hb dX5_stepBy_16 ?_
    refine lv_iconst (v := (1 : Int32)) hx hb dX5_stepBy_17 (by decide) ?_
    refine lv_iand hx hb dX5_stepBy_18 ?_
    refine lv_topi (fun x6 e_x6 => ?_)
    have hq := hq x6 e_x6
    refine z_csi ⟨hx, hb, hml, hown, hts⟩ hw (kX5_slewBy h_o0 hq) (va_cwS 3 hts gX5_stepBy_X5_slewBy rfl rfl rfl (by decide +kernel) ⟨Nat.le_of_ble_eq_true rfl, Nat.le_of_ble_eq_true rfl⟩) rfl hl.1 rfl (Nat.le_of_ble_eq_true rfl) dX5_stepBy_19 ⟨Nat.zero_le _, Nat.zero_le _⟩ (fun r7 M0 J0 H locs hq hw => ?_)
    obtain ⟨hq, rfl, rfl⟩ := hq
    refine lv_istore_n (lv' := [(3, .int r7), (0, .ref (ad o0)), (1, .int x1), (2, .int x2)]) hx hb dX5_stepBy_22 rfl hl (by decide) rfl (fun ls hl => ?_)
    refine lv_aload_n hx hb dX5_stepBy_23 rfl (lv_at hl 1 rfl) ?_
    refine lv_iload_n hx hb dX5_stepBy_24 rfl (lv_at hl 2 rfl) ?_
    refine lv_iload_n hx hb dX5_stepBy_25 rfl (lv_at hl 3 rfl) ?_
    refine lv_iconst (v := (2 : Int32)) hx hb dX5_stepBy_26 (by decide) ?_
    refine lv_ishr hx hb dX5_stepBy_27 ?_
    refine lv_iconst (v := (1 : Int32)) hx hb dX5_stepBy_28 (by decide) ?_
    refine lv_iand hx hb dX5_stepBy_29 ?_
    refine lv_topi (fun x8 e_x8 => ?_)
    have hq := hq x8 e_x8
    refine z_csi ⟨hx, hb, hml, hown, hts⟩ hw (kX5_slewBy h_o0 hq) (va_cwS 3 hts gX5_stepBy_X5_slewBy rfl rfl rfl (by decide +kernel) ⟨Nat.le_of_ble_eq_true rfl, Nat.le_of_ble_eq_true rfl⟩) rfl hl.1 rfl (Nat.le_of_ble_eq_true rfl) dX5_stepBy_30 ⟨Nat.zero_le _, Nat.zero_le _⟩ (fun r9 M0 J0 H locs hq hw => ?_)
    obtain ⟨hq, rfl, rfl⟩ := hq
    refine lv_istore (lv' := [(4, .int r9), (3, .int r7), (0, .ref (ad o0)), (1, .int x1), (2, .int x2)]) hx hb dX5_stepBy_33 hl (by decide) rfl (fun ls hl => ?_)
    refine lv_aload_n hx hb dX5_stepBy_35 rfl (lv_at hl 2 rfl) ?_
    refine lv_iload_n hx hb dX5_stepBy_36 rfl (lv_at hl 3 rfl) ?_
    refine lv_iconst (v := (1 : Int32)) hx hb dX5_stepBy_37 (by decide) ?_
    refine lv_iadd hx hb dX5_stepBy_38 ?_
    refine lv_iload_n hx hb dX5_stepBy_39 rfl (lv_at hl 4 rfl) ?_
    refine lv_iconst (v := (1 : Int32)) hx hb dX5_stepBy_40 (by decide) ?_
    refine lv_ishr hx hb dX5_stepBy_41 ?_
    refine lv_iconst (v := (1 : Int32)) hx hb dX5_stepBy_42 (by decide) ?_
    refine lv_iand hx hb dX5_stepBy_43 ?_
    refine lv_topi (fun x10 e_x10 => ?_)
    have hq := hq x10 e_x10
    refine z_csi ⟨hx, hb, hml, hown, hts⟩ hw (kX5_slewBy h_o0 hq) (va_cwS 3 hts gX5_stepBy_X5_slewBy rfl rfl rfl (by decide +kernel) ⟨Nat.le_of_ble_eq_true rfl, Nat.le_of_ble_eq_true rfl⟩) rfl hl.1 rfl (Nat.le_of_ble_eq_true rfl) dX5_stepBy_44 ⟨Nat.zero_le _, Nat.zero_le _⟩ (fun r11 M0 J0 H locs hq hw => ?_)
    obtain ⟨hq, rfl, rfl⟩ := hq
    refine lv_istore (lv' := [(5, .int r11), (4, .int r9), (3, .int r7), (0, .ref (ad o0)), (1, .int x1), (2, .int x2)]) hx hb dX5_stepBy_47 hl (by decide) rfl (fun ls hl => ?_)
    refine lv_aload_n hx hb dX5_stepBy_49 rfl (lv_at hl 3 rfl) ?_
    refine lv_iload_n hx hb dX5_stepBy_50 rfl (lv_at hl 4 rfl) ?_
    refine lv_iconst (v := (2 : Int32)) hx hb dX5_stepBy_51 (by decide) ?_
    refine lv_iadd hx hb dX5_stepBy_52 ?_
    refine lv_iload_n hx hb dX5_stepBy_53 rfl (lv_at hl 5 rfl) ?_
    refine lv_iconst (v := (1 : Int32)) hx hb dX5_stepBy_54 (by decide) ?_
    refine lv_iand hx hb dX5_stepBy_55 ?_
    refine z_csi ⟨hx, hb, hml, hown, hts⟩ hw (kX5_slewBy h_o0 hq) (va_cwS 3 hts gX5_stepBy_X5_slewBy rfl rfl rfl (by decide +kernel) ⟨Nat.le_of_ble_eq_true rfl, Nat.le_of_ble_eq_true rfl⟩) rfl hl.1 rfl (Nat.le_of_ble_eq_true rfl) dX5_stepBy_56 ⟨Nat.zero_le _, Nat.zero_le _⟩ (fun r12 M0 J0 H locs hq hw => ?_)
    obtain ⟨hq, rfl, rfl⟩ := hq
    refine lv_istore (lv' := [(6, .int r12), (5, .int r11), (4, .int r9), (3, .int r7), (0, .ref (ad o0)), (1, .int x1), (2, .int x2)]) hx hb dX5_stepBy_59 hl (by decide) rfl (fun ls hl => ?_)
    refine lv_aload_n hx hb dX5_stepBy_61 rfl (lv_at hl 4 rfl) ?_
    refine zg2_versines hx hb g2 hown hw h_o0 q1 dX5_stepBy_62 ?_
    refine lv_iload_n hx hb dX5_stepBy_65 rfl (lv_at hl 5 rfl) ?_
    obtain ⟨hi, hq⟩ := hq
    refine z_iald (n := 12) hx hb hw (zk_2_2 hC h_o0) hi dX5_stepBy_66 ?_
    refine lv_aload_n hx hb dX5_stepBy_67 rfl (lv_at hl 4 rfl) ?_
    refine zg2_versines hx hb g2 hown hw h_o0 q1 dX5_stepBy_68 ?_
    refine lv_iload_n hx hb dX5_stepBy_71 rfl (lv_at hl 5 rfl) ?_
    refine lv_iconst (v := (1 : Int32)) hx hb dX5_stepBy_72 (by decide) ?_
    refine lv_iadd hx hb dX5_stepBy_73 ?_
    obtain ⟨hi, hq⟩ := hq
    refine z_iald (n := 12) hx hb hw (zk_2_2 hC h_o0) hi dX5_stepBy_74 ?_
    refine lv_isub hx hb dX5_stepBy_75 ?_
    refine lv_topi (fun x13 e_x13 => ?_)
    have hq := hq x13 e_x13
    refine lv_iconst (v := (3 : Int32)) hx hb dX5_stepBy_76 (by decide) ?_
    refine lv_iload hx hb dX5_stepBy_77 (lv_at hl 2 rfl) ?_
    refine lv_iload hx hb dX5_stepBy_79 (lv_at hl 1 rfl) ?_
    refine lv_isub hx hb dX5_stepBy_81 ?_
    refine lv_imul hx hb dX5_stepBy_82 ?_
    refine lv_iadd hx hb dX5_stepBy_83 ?_
    refine lv_iload_n hx hb dX5_stepBy_84 rfl (lv_at hl 3 rfl) ?_
    refine lv_isub hx hb dX5_stepBy_85 ?_
    refine lv_iload hx hb dX5_stepBy_86 (lv_at hl 0 rfl) ?_
    refine lv_iadd hx hb dX5_stepBy_88 ?_
    refine lv_topi (fun x14 e_x14 => ?_)
    have hq := hq x14 e_x14
    refine va_mabs hx hb (hml.trans hl.1.symm) hown q2 q3 q4 q5 (Nat.le_of_ble_eq_true rfl) (Nat.le_of_ble_eq_true rfl) (Nat.zero_le _) (Nat.zero_le _) dX5_stepBy_89 ?_
    exact z_iret hQE hx hb hr hlk hw dX5_stepBy_92 ⟨hq, rfl, rfl⟩
  · have hq := hq.2 hc
    refine lv_iconst (v := (0 : Int32)) hx hb dX5_stepBy_8 (by decide) ?_
    exact z_iret hQE hx hb hr hlk hw dX5_stepBy_9 ⟨hq, rfl, rfl⟩
set_option maxRecDepth 20000 in
theorem ggX5_goOn_J7_fill_d0a16 : GoodIn wsX5_goOn wsJ7_fill_d0a16 := goodIn_r _ [6] (by decide +kernel) (by decide +kernel)
set_option maxRecDepth 20000 in
theorem gX5_goOn_J7_fill_d0a16 : GoodIn wsX5_goOn (va_wsS RX5 57 yJ7_fill_d0a16 wsJ7_fill_d0a16) := goodIn_app (goodIn_of _ (by decide +kernel)) ggX5_goOn_J7_fill_d0a16
set_option maxRecDepth 20000 in
theorem ggX5_goOn_X5_waysOf : GoodIn wsX5_goOn wsX5_waysOf := goodIn_r _ [11, 12, 13, 14, 10, 15, 16, 17, 18, 19, 20, 21, 22, 23, 24, 25, 26, 27, 28, 29, 30, 31, 32, 48, 49, 50, 51, 52, 53, 54, 55, 56, 57, 58] (by decide +kernel) (by decide +kernel)
set_option maxRecDepth 20000 in
theorem gX5_goOn_X5_waysOf : GoodIn wsX5_goOn (wsV RX5 63 RX5 yX5_waysOf wsX5_waysOf) := goodIn_app (goodIn_of _ (by decide +kernel)) ggX5_goOn_X5_waysOf
set_option maxRecDepth 20000 in
theorem ggX5_goOn_X5_stepBy : GoodIn wsX5_goOn wsX5_stepBy := goodIn_r _ [35, 36, 37, 38, 39, 40, 41, 42, 43, 19, 44, 25, 31, 45, 46, 10, 47, 32, 22, 23, 24, 26, 16, 17, 18, 20, 21, 27, 28, 29, 30, 53, 54, 55, 56, 57, 58] (by decide +kernel) (by decide +kernel)
set_option maxRecDepth 20000 in
theorem gX5_goOn_X5_stepBy : GoodIn wsX5_goOn (va_wsS RX5 67 yX5_stepBy wsX5_stepBy) := goodIn_app (goodIn_of _ (by decide +kernel)) ggX5_goOn_X5_stepBy
theorem dX5_goOn_0 : decode cX5_goOn 0 = .ok (.aload_n 0, 1) := by decide +kernel
theorem dX5_goOn_1 : decode cX5_goOn 1 = .ok (.getfield 20, 3) := by decide +kernel
theorem dX5_goOn_4 : decode cX5_goOn 4 = .ok (.lconst 0, 1) := by decide +kernel
theorem dX5_goOn_5 : decode cX5_goOn 5 = .ok (.invokestatic 57, 3) := by decide +kernel
theorem dX5_goOn_8 : decode cX5_goOn 8 = .ok (.iconst 0, 1) := by decide +kernel
theorem dX5_goOn_9 : decode cX5_goOn 9 = .ok (.istore 4, 2) := by decide +kernel
theorem dX5_goOn_11 : decode cX5_goOn 11 = .ok (.iload 4, 2) := by decide +kernel
theorem dX5_goOn_13 : decode cX5_goOn 13 = .ok (.bipush 16, 2) := by decide +kernel
theorem dX5_goOn_15 : decode cX5_goOn 15 = .ok (.if_icmp .ge 67, 3) := by decide +kernel
theorem dX5_goOn_18 : decode cX5_goOn 18 = .ok (.aload_n 0, 1) := by decide +kernel
theorem dX5_goOn_19 : decode cX5_goOn 19 = .ok (.getfield 16, 3) := by decide +kernel
theorem dX5_goOn_22 : decode cX5_goOn 22 = .ok (.iload 4, 2) := by decide +kernel
theorem dX5_goOn_24 : decode cX5_goOn 24 = .ok (.iconst 2, 1) := by decide +kernel
theorem dX5_goOn_25 : decode cX5_goOn 25 = .ok (.idiv, 1) := by decide +kernel
theorem dX5_goOn_26 : decode cX5_goOn 26 = .ok (.laload, 1) := by decide +kernel
theorem dX5_goOn_27 : decode cX5_goOn 27 = .ok (.aload_n 0, 1) := by decide +kernel
theorem dX5_goOn_28 : decode cX5_goOn 28 = .ok (.aload_n 1, 1) := by decide +kernel
theorem dX5_goOn_29 : decode cX5_goOn 29 = .ok (.iload_n 2, 1) := by decide +kernel
theorem dX5_goOn_30 : decode cX5_goOn 30 = .ok (.iconst 2, 1) := by decide +kernel
theorem dX5_goOn_31 : decode cX5_goOn 31 = .ok (.iadd, 1) := by decide +kernel
theorem dX5_goOn_32 : decode cX5_goOn 32 = .ok (.iload 4, 2) := by decide +kernel
theorem dX5_goOn_34 : decode cX5_goOn 34 = .ok (.iconst 2, 1) := by decide +kernel
theorem dX5_goOn_35 : decode cX5_goOn 35 = .ok (.irem, 1) := by decide +kernel
theorem dX5_goOn_36 : decode cX5_goOn 36 = .ok (.invokevirtual 63, 3) := by decide +kernel
theorem dX5_goOn_39 : decode cX5_goOn 39 = .ok (.i2l, 1) := by decide +kernel
theorem dX5_goOn_40 : decode cX5_goOn 40 = .ok (.lmul, 1) := by decide +kernel
theorem dX5_goOn_41 : decode cX5_goOn 41 = .ok (.lstore 5, 2) := by decide +kernel
theorem dX5_goOn_43 : decode cX5_goOn 43 = .ok (.lload 5, 2) := by decide +kernel
theorem dX5_goOn_45 : decode cX5_goOn 45 = .ok (.lconst 0, 1) := by decide +kernel
theorem dX5_goOn_46 : decode cX5_goOn 46 = .ok (.lcmp, 1) := by decide +kernel
theorem dX5_goOn_47 : decode cX5_goOn 47 = .ok (.ifCond .eq 29, 3) := by decide +kernel
theorem dX5_goOn_50 : decode cX5_goOn 50 = .ok (.aload_n 1, 1) := by decide +kernel
theorem dX5_goOn_51 : decode cX5_goOn 51 = .ok (.iload_n 2, 1) := by decide +kernel
theorem dX5_goOn_52 : decode cX5_goOn 52 = .ok (.iload 4, 2) := by decide +kernel
theorem dX5_goOn_54 : decode cX5_goOn 54 = .ok (.invokestatic 67, 3) := by decide +kernel
theorem dX5_goOn_57 : decode cX5_goOn 57 = .ok (.iload_n 3, 1) := by decide +kernel
theorem dX5_goOn_58 : decode cX5_goOn 58 = .ok (.if_icmp .gt 18, 3) := by decide +kernel
theorem dX5_goOn_61 : decode cX5_goOn 61 = .ok (.aload_n 0, 1) := by decide +kernel
theorem dX5_goOn_62 : decode cX5_goOn 62 = .ok (.getfield 20, 3) := by decide +kernel
theorem dX5_goOn_65 : decode cX5_goOn 65 = .ok (.iload 4, 2) := by decide +kernel
theorem dX5_goOn_67 : decode cX5_goOn 67 = .ok (.bipush 8, 2) := by decide +kernel
theorem dX5_goOn_69 : decode cX5_goOn 69 = .ok (.irem, 1) := by decide +kernel
theorem dX5_goOn_70 : decode cX5_goOn 70 = .ok (.dup2, 1) := by decide +kernel
theorem dX5_goOn_71 : decode cX5_goOn 71 = .ok (.laload, 1) := by decide +kernel
theorem dX5_goOn_72 : decode cX5_goOn 72 = .ok (.lload 5, 2) := by decide +kernel
theorem dX5_goOn_74 : decode cX5_goOn 74 = .ok (.ladd, 1) := by decide +kernel
theorem dX5_goOn_75 : decode cX5_goOn 75 = .ok (.lastore, 1) := by decide +kernel
theorem dX5_goOn_76 : decode cX5_goOn 76 = .ok (.iinc 4 1, 3) := by decide +kernel
theorem dX5_goOn_79 : decode cX5_goOn 79 = .ok (.goto (-68), 3) := by decide +kernel
theorem dX5_goOn_82 : decode cX5_goOn 82 = .ok (.aload_n 0, 1) := by decide +kernel
theorem dX5_goOn_83 : decode cX5_goOn 83 = .ok (.getfield 16, 3) := by decide +kernel
theorem dX5_goOn_86 : decode cX5_goOn 86 = .ok (.astore 4, 2) := by decide +kernel
theorem dX5_goOn_88 : decode cX5_goOn 88 = .ok (.aload_n 0, 1) := by decide +kernel
theorem dX5_goOn_89 : decode cX5_goOn 89 = .ok (.aload_n 0, 1) := by decide +kernel
theorem dX5_goOn_90 : decode cX5_goOn 90 = .ok (.getfield 20, 3) := by decide +kernel
theorem dX5_goOn_93 : decode cX5_goOn 93 = .ok (.putfield 16, 3) := by decide +kernel
theorem dX5_goOn_96 : decode cX5_goOn 96 = .ok (.aload_n 0, 1) := by decide +kernel
theorem dX5_goOn_97 : decode cX5_goOn 97 = .ok (.aload 4, 2) := by decide +kernel
theorem dX5_goOn_99 : decode cX5_goOn 99 = .ok (.putfield 20, 3) := by decide +kernel
theorem dX5_goOn_102 : decode cX5_goOn 102 = .ok (.return_, 1) := by decide +kernel
def rmX5_goOn : Room := { frames := 4, cells := 0, slots := 0, locals := 91 }
def lpX5_goOn_11 (o0 : Nat) (o1 : Nat) (x2 : Int32) (x3 : Int32) (M6 : zM) (K11_82 : Int32 → zL → Prop) : Nat → Int32 → zL → Prop
  | 0, _, _ => False
  | fu11 + 1, x8, J9 =>
    (((16 : Int32) ≤ x8) → (
    K11_82 x8 J9)) ∧
    ((¬ (16 : Int32) ≤ x8) → (
    vp_in (x8 / (2 : Int32)) 8 ∧
    ∀ y14 : Int64, y14 = (J9 (zw (M6 o0 1) o0) (x8 / (2 : Int32)).toNatClampNeg) →
    wX5_waysOf M6 o0 o1 (x2 + (2 : Int32)) (x8 - x8 / (2 : Int32) * (2 : Int32)) (fun r15 =>
    (((lg_cmp (y14 * r15.toInt64) (0 : Int64)) = 0) → (
    ∀ x16 : Int32, x16 = x8 + (1 : Int32) →
    lpX5_goOn_11 o0 o1 x2 x3 M6 K11_82 fu11 x16 J9)) ∧
    ((¬ (lg_cmp (y14 * r15.toInt64) (0 : Int64)) = 0) → (
    wX5_stepBy M6 o1 x2 x8 (fun r17 =>
    ((x3 < r17) → (
    ∀ x18 : Int32, x18 = x8 + (1 : Int32) →
    lpX5_goOn_11 o0 o1 x2 x3 M6 K11_82 fu11 x18 J9)) ∧
    ((¬ x3 < r17) → (
    vp_in (x8 - x8 / (8 : Int32) * (8 : Int32)) 8 ∧
    ∀ y19 : Int64, y19 = (J9 (zw (M6 o0 2) o0) (x8 - x8 / (8 : Int32) * (8 : Int32)).toNatClampNeg) →
    vp_in (x8 - x8 / (8 : Int32) * (8 : Int32)) 8 ∧
    ∀ J20 : zL, J20 = va_up J9 (zw (M6 o0 2) o0) (vp_updL (J9 (zw (M6 o0 2) o0)) (x8 - x8 / (8 : Int32) * (8 : Int32)).toNatClampNeg (y19 + (y14 * r15.toInt64))) →
    ∀ x21 : Int32, x21 = x8 + (1 : Int32) →
    lpX5_goOn_11 o0 o1 x2 x3 M6 K11_82 fu11 x21 J20))))))))
def wX5_goOn (M : zM) (J : zL) (o0 : Nat) (o1 : Nat) (x2 : Int32) (x3 : Int32) (Q : zM → zL → Prop) : Prop :=
    wJ7_fill_d0a16 M J (zw (M o0 2) o0) (0 : Int64) (fun M6 J7 =>
    ∃ fu11 : Nat, lpX5_goOn_11 o0 o1 x2 x3 M6 (fun x10 J11 =>
    ∀ M12 : zM, M12 = va_up M6 o0 (upd (M6 o0) 1 (M6 o0 2)) →
    ∀ M13 : zM, M13 = va_up M12 o0 (upd (M12 o0) 2 (M6 o0 1)) →
    Q M13 J11) fu11 (0 : Int32) J7)
set_option maxHeartbeats 4000000 in
set_option maxRecDepth 100000 in
theorem kX5_goOn {l : Launch} {D : va_G} {Y : zY} {ad kd : Nat → Nat} {RL : List Nat} {M : zM} {J : zL} {o0 : Nat} {o1 : Nat} {x2 : Int32} {x3 : Int32} (h_o0 : kd o0 = 5) (h_o1 : kd o1 = 2) {Q : zM → zL → Prop} (hq : wX5_goOn M J o0 o1 x2 x3 Q) : zCv l yX5_goOn wsX5_goOn rmX5_goOn [.ref (ad o0), .ref (ad o1), .int x2, .int x3] D Y ad kd RL M J (fun M' J' => Q M' J') := by
  refine z_metv (cc := cX5_goOn) (maxL := 7) (ret := none) (by decide) rfl (Nat.le_of_ble_eq_true rfl) ?_
  intro p e s m below meth c ls A ar QE hQE hx hb hr hml hown hts hlk hw hl
  have hown : s.vm.findClass RX5 = some m.cls := hown
  have hl : lv_has ls 7 [(0, .ref (ad o0)), (1, .ref (ad o1)), (2, .int x2), (3, .int x3)] := hl
  have hC := hw.2.2.2.2.2.1
  have g5 : ∀ w ∈ wsX50, w.before ar s = true := (fun w h => hts w (List.mem_cons_of_mem _ (List.mem_append_left _ (List.mem_append_right _ h))))
  have q1 := hts _ (List.mem_of_getElem? (i := 1) rfl)
  have q2 := hts _ (List.mem_of_getElem? (i := 2) rfl)
  unfold wX5_goOn at hq
  refine lv_aload_n hx hb dX5_goOn_0 rfl (lv_at hl 0 rfl) ?_
  refine zg5_waysOn hx hb g5 hown hw h_o0 q1 dX5_goOn_1 ?_
  refine lv_lconst (v := (0 : Int64)) hx hb dX5_goOn_4 (by decide) ?_
  refine z_csv ⟨hx, hb, hml, hown, hts⟩ hw (kJ7_fill_d0a16 (zk_5_w hC h_o0 _) hq) (va_cwS 2 hts gX5_goOn_J7_fill_d0a16 rfl rfl rfl (by decide +kernel) ⟨Nat.le_of_ble_eq_true rfl, Nat.le_of_ble_eq_true rfl⟩) rfl hl.1 rfl (Nat.le_of_ble_eq_true rfl) dX5_goOn_5 ⟨Nat.zero_le _, Nat.zero_le _⟩ (fun M6 J7 H locs hq hw => ?_)
  refine lv_iconst (v := (0 : Int32)) hx hb dX5_goOn_8 (by decide) ?_
  refine lv_istore (lv' := [(4, .int (0 : Int32)), (0, .ref (ad o0)), (1, .ref (ad o1)), (2, .int x2), (3, .int x3)]) hx hb dX5_goOn_9 hl (by decide) rfl (fun ls hl => ?_)
  have ex11_82 : ∀ (x10 : Int32) (J11 : zL) (H : Heap) (locs : List Loc) (ls : Array Slot), (∀ M12 : zM, M12 = va_up M6 o0 (upd (M6 o0) 1 (M6 o0 2)) → ∀ M13 : zM, M13 = va_up M12 o0 (upd (M12 o0) 2 (M6 o0 1)) → Q M13 J11) → zH D Y ad kd RL M6 J11 A s.heap H locs s → lv_has ls 7 [(0, .ref (ad o0))] → W p l e rmX5_goOn s m ar below meth c H locs 0 0 QE (F0 m 82 ls []) := by
    intro x10 J11 H locs ls hq hw hl
    refine lv_aload_n hx hb dX5_goOn_82 rfl (lv_at hl 0 rfl) ?_
    refine zg5_ways hx hb g5 hown hw h_o0 q2 dX5_goOn_83 ?_
    refine lv_astore (lv' := [(4, .ref (ad (zw (M6 o0 1) o0))), (0, .ref (ad o0))]) hx hb dX5_goOn_86 hl (by decide) rfl (fun ls hl => ?_)
    refine lv_aload_n hx hb dX5_goOn_88 rfl (lv_at hl 1 rfl) ?_
    refine lv_aload_n hx hb dX5_goOn_89 rfl (lv_at hl 1 rfl) ?_
    refine zg5_waysOn hx hb g5 hown hw h_o0 q1 dX5_goOn_90 ?_
    refine zp5_ways hx hb g5 hown hw h_o0 q2 dX5_goOn_93 (fun H locs hw => ?_)
    obtain ⟨M12, e_M12⟩ : ∃ y : zM, y = va_up M6 o0 (upd (M6 o0) 1 (M6 o0 2)) := ⟨_, rfl⟩
    rw [← e_M12] at hw
    have hq := hq M12 e_M12
    refine lv_aload_n hx hb dX5_goOn_96 rfl (lv_at hl 1 rfl) ?_
    refine lv_aload hx hb dX5_goOn_97 (lv_at hl 0 rfl) ?_
    refine zp5_waysOn hx hb g5 hown hw h_o0 q1 dX5_goOn_99 (fun H locs hw => ?_)
    obtain ⟨M13, e_M13⟩ : ∃ y : zM, y = va_up M12 o0 (upd (M12 o0) 2 (M6 o0 1)) := ⟨_, rfl⟩
    rw [← e_M13] at hw
    have hq := hq M13 e_M13
    exact z_vret hQE hx hb hr hlk hw dX5_goOn_102 hq
  obtain ⟨fu11, hq⟩ := hq
  have lp11 : ∀ (fu11 : Nat) (x8 : Int32) (J9 : zL) (H : Heap) (locs : List Loc) (ls : Array Slot), lpX5_goOn_11 o0 o1 x2 x3 M6 (fun x10 J11 => ∀ M12 : zM, M12 = va_up M6 o0 (upd (M6 o0) 1 (M6 o0 2)) → ∀ M13 : zM, M13 = va_up M12 o0 (upd (M12 o0) 2 (M6 o0 1)) → Q M13 J11) fu11 x8 J9 → zH D Y ad kd RL M6 J9 A s.heap H locs s → lv_has ls 7 [(0, .ref (ad o0)), (1, .ref (ad o1)), (2, .int x2), (3, .int x3), (4, .int x8)] → W p l e rmX5_goOn s m ar below meth c H locs 0 0 QE (F0 m 11 ls []) := by
    intro fu11
    induction fu11 with
    | zero => intro x8 J9 H locs ls hq; exact hq.elim
    | succ fu11 ih11 =>
      intro x8 J9 H locs ls hq hw hl
      unfold lpX5_goOn_11 at hq
      refine lv_iload hx hb dX5_goOn_11 (lv_at hl 4 rfl) ?_
      refine lv_bipush (v := (16 : Int32)) hx hb dX5_goOn_13 (by decide) ?_
      refine lv_icmp_ge (tgt := 82) hx hb dX5_goOn_15 (by decide) (fun hc => ?_) (fun hc => ?_)
      · have hq := hq.1 hc
        exact ex11_82 x8 J9 _ _ _ hq hw (lv_sub hl [0] rfl)
      · have hq := hq.2 hc
        refine lv_aload_n hx hb dX5_goOn_18 rfl (lv_at hl 0 rfl) ?_
        refine zg5_ways hx hb g5 hown hw h_o0 q2 dX5_goOn_19 ?_
        refine lv_iload hx hb dX5_goOn_22 (lv_at hl 4 rfl) ?_
        refine lv_iconst (v := (2 : Int32)) hx hb dX5_goOn_24 (by decide) ?_
        refine lv_idiv hx hb dX5_goOn_25 (by decide) ?_
        obtain ⟨hi, hq⟩ := hq
        refine z_lald hx hb hw (zk_5_w hC h_o0 _) hi dX5_goOn_26 ?_
        refine lv_topl (fun y14 e_y14 => ?_)
        have hq := hq y14 e_y14
        refine lv_aload_n hx hb dX5_goOn_27 rfl (lv_at hl 0 rfl) ?_
        refine lv_aload_n hx hb dX5_goOn_28 rfl (lv_at hl 1 rfl) ?_
        refine lv_iload_n hx hb dX5_goOn_29 rfl (lv_at hl 2 rfl) ?_
        refine lv_iconst (v := (2 : Int32)) hx hb dX5_goOn_30 (by decide) ?_
        refine lv_iadd hx hb dX5_goOn_31 ?_
        refine lv_iload hx hb dX5_goOn_32 (lv_at hl 4 rfl) ?_
        refine lv_iconst (v := (2 : Int32)) hx hb dX5_goOn_34 (by decide) ?_
        refine lv_irem hx hb dX5_goOn_35 (by decide) ?_
        refine z_cvi ⟨hx, hb, hml, hown, hts⟩ hw h_o0 (kX5_waysOf h_o0 h_o1 hq) (by decide) rfl (cwV 3 hts gX5_goOn_X5_waysOf rfl rfl rfl (by decide +kernel) ⟨Nat.le_of_ble_eq_true rfl, Nat.le_of_ble_eq_true rfl⟩) rfl hl.1 rfl (Nat.le_of_ble_eq_true rfl) dX5_goOn_36 ⟨Nat.zero_le _, Nat.zero_le _⟩ (fun r15 M0 J0 H locs hq hw => ?_)
        obtain ⟨hq, rfl, rfl⟩ := hq
        refine lv_i2l hx hb dX5_goOn_39 rfl ?_
        refine lv_lmul hx hb dX5_goOn_40 ?_
        refine lv_lstore (lv' := [(5, .long (y14 * r15.toInt64)), (0, .ref (ad o0)), (1, .ref (ad o1)), (2, .int x2), (3, .int x3), (4, .int x8)]) hx hb dX5_goOn_41 hl (by decide) rfl (fun ls hl => ?_)
        refine lv_lload hx hb dX5_goOn_43 (lv_at hl 0 rfl) ?_
        refine lv_lconst (v := (0 : Int64)) hx hb dX5_goOn_45 (by decide) ?_
        refine W.lcmp hx hb dX5_goOn_46 ?_
        refine lv_if_eq (tgt := 76) hx hb dX5_goOn_47 (by decide) (fun hc => ?_) (fun hc => ?_)
        · have hq := hq.1 hc
          obtain ⟨x16, e_x16⟩ : ∃ y : Int32, y = x8 + (1 : Int32) := ⟨_, rfl⟩
          have hq := hq x16 e_x16
          refine lv_iinc (v := x16) (lv' := [(4, .int x16), (5, .long (y14 * r15.toInt64)), (0, .ref (ad o0)), (1, .ref (ad o1)), (2, .int x2), (3, .int x3)]) hx hb dX5_goOn_76 hl (k := 5) rfl (by rw [e_x16]; rfl) (by decide) rfl (fun ls hl => ?_)
          refine lv_goto (tgt := 11) hx hb dX5_goOn_79 (by decide) ?_
          exact ih11 x16 J9 _ _ _ hq hw (lv_sub hl [2, 3, 4, 5, 0] rfl)
        · have hq := hq.2 hc
          refine lv_aload_n hx hb dX5_goOn_50 rfl (lv_at hl 2 rfl) ?_
          refine lv_iload_n hx hb dX5_goOn_51 rfl (lv_at hl 3 rfl) ?_
          refine lv_iload hx hb dX5_goOn_52 (lv_at hl 5 rfl) ?_
          refine z_csi ⟨hx, hb, hml, hown, hts⟩ hw (kX5_stepBy h_o1 hq) (va_cwS 3 hts gX5_goOn_X5_stepBy rfl rfl rfl (by decide +kernel) ⟨Nat.le_of_ble_eq_true rfl, Nat.le_of_ble_eq_true rfl⟩) rfl hl.1 rfl (Nat.le_of_ble_eq_true rfl) dX5_goOn_54 ⟨Nat.zero_le _, Nat.zero_le _⟩ (fun r17 M0 J0 H locs hq hw => ?_)
          obtain ⟨hq, rfl, rfl⟩ := hq
          refine lv_iload_n hx hb dX5_goOn_57 rfl (lv_at hl 4 rfl) ?_
          refine lv_icmp_gt (tgt := 76) hx hb dX5_goOn_58 (by decide) (fun hc => ?_) (fun hc => ?_)
          · have hq := hq.1 hc
            obtain ⟨x18, e_x18⟩ : ∃ y : Int32, y = x8 + (1 : Int32) := ⟨_, rfl⟩
            have hq := hq x18 e_x18
            refine lv_iinc (v := x18) (lv' := [(4, .int x18), (5, .long (y14 * r15.toInt64)), (0, .ref (ad o0)), (1, .ref (ad o1)), (2, .int x2), (3, .int x3)]) hx hb dX5_goOn_76 hl (k := 5) rfl (by rw [e_x18]; rfl) (by decide) rfl (fun ls hl => ?_)
            refine lv_goto (tgt := 11) hx hb dX5_goOn_79 (by decide) ?_
            exact ih11 x18 J9 _ _ _ hq hw (lv_sub hl [2, 3, 4, 5, 0] rfl)
          · have hq := hq.2 hc
            refine lv_aload_n hx hb dX5_goOn_61 rfl (lv_at hl 1 rfl) ?_
            refine zg5_waysOn hx hb g5 hown hw h_o0 q1 dX5_goOn_62 ?_
            refine lv_iload hx hb dX5_goOn_65 (lv_at hl 5 rfl) ?_
            refine lv_bipush (v := (8 : Int32)) hx hb dX5_goOn_67 (by decide) ?_
            refine lv_irem hx hb dX5_goOn_69 (by decide) ?_
            refine lv_dup2_11 hx hb dX5_goOn_70 rfl rfl ?_
            obtain ⟨hi, hq⟩ := hq
            refine z_lald hx hb hw (zk_5_w hC h_o0 _) hi dX5_goOn_71 ?_
            refine lv_topl (fun y19 e_y19 => ?_)
            have hq := hq y19 e_y19
            refine lv_lload hx hb dX5_goOn_72 (lv_at hl 0 rfl) ?_
            refine lv_ladd hx hb dX5_goOn_74 ?_
            obtain ⟨hi, hq⟩ := hq
            refine z_last hx hb hw (zk_5_w hC h_o0 _) hi dX5_goOn_75 (fun H locs hw => ?_)
            obtain ⟨J20, e_J20⟩ : ∃ y : zL, y = va_up J9 (zw (M6 o0 2) o0) (vp_updL (J9 (zw (M6 o0 2) o0)) (x8 - x8 / (8 : Int32) * (8 : Int32)).toNatClampNeg (y19 + (y14 * r15.toInt64))) := ⟨_, rfl⟩
            rw [← e_J20] at hw
            have hq := hq J20 e_J20
            obtain ⟨x21, e_x21⟩ : ∃ y : Int32, y = x8 + (1 : Int32) := ⟨_, rfl⟩
            have hq := hq x21 e_x21
            refine lv_iinc (v := x21) (lv' := [(4, .int x21), (5, .long (y14 * r15.toInt64)), (0, .ref (ad o0)), (1, .ref (ad o1)), (2, .int x2), (3, .int x3)]) hx hb dX5_goOn_76 hl (k := 5) rfl (by rw [e_x21]; rfl) (by decide) rfl (fun ls hl => ?_)
            refine lv_goto (tgt := 11) hx hb dX5_goOn_79 (by decide) ?_
            exact ih11 x21 J20 _ _ _ hq hw (lv_sub hl [2, 3, 4, 5, 0] rfl)
  exact lp11 fu11 (0 : Int32) J7 _ _ _ hq hw (lv_sub hl [1, 2, 3, 4, 0] rfl)
set_option maxRecDepth 20000 in
theorem ggX5_beginWays_J7_fill_d0a16 : GoodIn wsX5_beginWays wsJ7_fill_d0a16 := goodIn_r _ [5] (by decide +kernel) (by decide +kernel)
set_option maxRecDepth 20000 in
theorem gX5_beginWays_J7_fill_d0a16 : GoodIn wsX5_beginWays (va_wsS RX5 57 yJ7_fill_d0a16 wsJ7_fill_d0a16) := goodIn_app (goodIn_of _ (by decide +kernel)) ggX5_beginWays_J7_fill_d0a16
set_option maxRecDepth 20000 in
theorem ggX5_beginWays_X5_waysOf : GoodIn wsX5_beginWays wsX5_waysOf := goodIn_r _ [10, 11, 12, 13, 9, 14, 15, 16, 17, 18, 19, 20, 21, 22, 23, 24, 25, 26, 27, 28, 29, 30, 31, 32, 33, 34, 35, 36, 37, 38, 39, 40, 41, 42] (by decide +kernel) (by decide +kernel)
set_option maxRecDepth 20000 in
theorem gX5_beginWays_X5_waysOf : GoodIn wsX5_beginWays (wsV RX5 63 RX5 yX5_waysOf wsX5_waysOf) := goodIn_app (goodIn_of _ (by decide +kernel)) ggX5_beginWays_X5_waysOf
theorem dX5_beginWays_0 : decode cX5_beginWays 0 = .ok (.aload_n 0, 1) := by decide +kernel
theorem dX5_beginWays_1 : decode cX5_beginWays 1 = .ok (.getfield 16, 3) := by decide +kernel
theorem dX5_beginWays_4 : decode cX5_beginWays 4 = .ok (.lconst 0, 1) := by decide +kernel
theorem dX5_beginWays_5 : decode cX5_beginWays 5 = .ok (.invokestatic 57, 3) := by decide +kernel
theorem dX5_beginWays_8 : decode cX5_beginWays 8 = .ok (.iconst 0, 1) := by decide +kernel
theorem dX5_beginWays_9 : decode cX5_beginWays 9 = .ok (.istore_n 2, 1) := by decide +kernel
theorem dX5_beginWays_10 : decode cX5_beginWays 10 = .ok (.iload_n 2, 1) := by decide +kernel
theorem dX5_beginWays_11 : decode cX5_beginWays 11 = .ok (.iconst 4, 1) := by decide +kernel
theorem dX5_beginWays_12 : decode cX5_beginWays 12 = .ok (.if_icmp .ge 35, 3) := by decide +kernel
theorem dX5_beginWays_15 : decode cX5_beginWays 15 = .ok (.aload_n 0, 1) := by decide +kernel
theorem dX5_beginWays_16 : decode cX5_beginWays 16 = .ok (.getfield 16, 3) := by decide +kernel
theorem dX5_beginWays_19 : decode cX5_beginWays 19 = .ok (.iload_n 2, 1) := by decide +kernel
theorem dX5_beginWays_20 : decode cX5_beginWays 20 = .ok (.aload_n 0, 1) := by decide +kernel
theorem dX5_beginWays_21 : decode cX5_beginWays 21 = .ok (.aload_n 1, 1) := by decide +kernel
theorem dX5_beginWays_22 : decode cX5_beginWays 22 = .ok (.iconst 0, 1) := by decide +kernel
theorem dX5_beginWays_23 : decode cX5_beginWays 23 = .ok (.iload_n 2, 1) := by decide +kernel
theorem dX5_beginWays_24 : decode cX5_beginWays 24 = .ok (.iconst 2, 1) := by decide +kernel
theorem dX5_beginWays_25 : decode cX5_beginWays 25 = .ok (.idiv, 1) := by decide +kernel
theorem dX5_beginWays_26 : decode cX5_beginWays 26 = .ok (.invokevirtual 63, 3) := by decide +kernel
theorem dX5_beginWays_29 : decode cX5_beginWays 29 = .ok (.aload_n 0, 1) := by decide +kernel
theorem dX5_beginWays_30 : decode cX5_beginWays 30 = .ok (.aload_n 1, 1) := by decide +kernel
theorem dX5_beginWays_31 : decode cX5_beginWays 31 = .ok (.iconst 1, 1) := by decide +kernel
theorem dX5_beginWays_32 : decode cX5_beginWays 32 = .ok (.iload_n 2, 1) := by decide +kernel
theorem dX5_beginWays_33 : decode cX5_beginWays 33 = .ok (.iconst 2, 1) := by decide +kernel
theorem dX5_beginWays_34 : decode cX5_beginWays 34 = .ok (.irem, 1) := by decide +kernel
theorem dX5_beginWays_35 : decode cX5_beginWays 35 = .ok (.invokevirtual 63, 3) := by decide +kernel
theorem dX5_beginWays_38 : decode cX5_beginWays 38 = .ok (.imul, 1) := by decide +kernel
theorem dX5_beginWays_39 : decode cX5_beginWays 39 = .ok (.i2l, 1) := by decide +kernel
theorem dX5_beginWays_40 : decode cX5_beginWays 40 = .ok (.lastore, 1) := by decide +kernel
theorem dX5_beginWays_41 : decode cX5_beginWays 41 = .ok (.iinc 2 1, 3) := by decide +kernel
theorem dX5_beginWays_44 : decode cX5_beginWays 44 = .ok (.goto (-34), 3) := by decide +kernel
theorem dX5_beginWays_47 : decode cX5_beginWays 47 = .ok (.return_, 1) := by decide +kernel
def rmX5_beginWays : Room := { frames := 4, cells := 0, slots := 0, locals := 87 }
def lpX5_beginWays_10 (o0 : Nat) (o1 : Nat) (M4 : zM) (Q : zM → zL → Prop) : Nat → Int32 → zL → Prop
  | 0, _, _ => False
  | fu10 + 1, x6, J7 =>
    (((4 : Int32) ≤ x6) → (
    Q M4 J7)) ∧
    ((¬ (4 : Int32) ≤ x6) → (
    wX5_waysOf M4 o0 o1 (0 : Int32) (x6 / (2 : Int32)) (fun r8 =>
    wX5_waysOf M4 o0 o1 (1 : Int32) (x6 - x6 / (2 : Int32) * (2 : Int32)) (fun r9 =>
    vp_in x6 8 ∧
    ∀ J10 : zL, J10 = va_up J7 (zw (M4 o0 1) o0) (vp_updL (J7 (zw (M4 o0 1) o0)) x6.toNatClampNeg (r8 * r9).toInt64) →
    ∀ x11 : Int32, x11 = x6 + (1 : Int32) →
    lpX5_beginWays_10 o0 o1 M4 Q fu10 x11 J10))))
def wX5_beginWays (M : zM) (J : zL) (o0 : Nat) (o1 : Nat) (Q : zM → zL → Prop) : Prop :=
    wJ7_fill_d0a16 M J (zw (M o0 1) o0) (0 : Int64) (fun M4 J5 =>
    ∃ fu10 : Nat, lpX5_beginWays_10 o0 o1 M4 Q fu10 (0 : Int32) J5)
set_option maxHeartbeats 4000000 in
set_option maxRecDepth 100000 in
theorem kX5_beginWays {l : Launch} {D : va_G} {Y : zY} {ad kd : Nat → Nat} {RL : List Nat} {M : zM} {J : zL} {o0 : Nat} {o1 : Nat} (h_o0 : kd o0 = 5) (h_o1 : kd o1 = 2) {Q : zM → zL → Prop} (hq : wX5_beginWays M J o0 o1 Q) : zCv l yX5_beginWays wsX5_beginWays rmX5_beginWays [.ref (ad o0), .ref (ad o1)] D Y ad kd RL M J (fun M' J' => Q M' J') := by
  refine z_metv (cc := cX5_beginWays) (maxL := 3) (ret := none) (by decide) rfl (Nat.le_of_ble_eq_true rfl) ?_
  intro p e s m below meth c ls A ar QE hQE hx hb hr hml hown hts hlk hw hl
  have hown : s.vm.findClass RX5 = some m.cls := hown
  have hl : lv_has ls 3 [(0, .ref (ad o0)), (1, .ref (ad o1))] := hl
  have hC := hw.2.2.2.2.2.1
  have g5 : ∀ w ∈ wsX50, w.before ar s = true := (fun w h => hts w (List.mem_cons_of_mem _ (List.mem_append_left _ (List.mem_append_right _ h))))
  have q1 := hts _ (List.mem_of_getElem? (i := 1) rfl)
  unfold wX5_beginWays at hq
  refine lv_aload_n hx hb dX5_beginWays_0 rfl (lv_at hl 0 rfl) ?_
  refine zg5_ways hx hb g5 hown hw h_o0 q1 dX5_beginWays_1 ?_
  refine lv_lconst (v := (0 : Int64)) hx hb dX5_beginWays_4 (by decide) ?_
  refine z_csv ⟨hx, hb, hml, hown, hts⟩ hw (kJ7_fill_d0a16 (zk_5_w hC h_o0 _) hq) (va_cwS 2 hts gX5_beginWays_J7_fill_d0a16 rfl rfl rfl (by decide +kernel) ⟨Nat.le_of_ble_eq_true rfl, Nat.le_of_ble_eq_true rfl⟩) rfl hl.1 rfl (Nat.le_of_ble_eq_true rfl) dX5_beginWays_5 ⟨Nat.zero_le _, Nat.zero_le _⟩ (fun M4 J5 H locs hq hw => ?_)
  refine lv_iconst (v := (0 : Int32)) hx hb dX5_beginWays_8 (by decide) ?_
  refine lv_istore_n (lv' := [(2, .int (0 : Int32)), (0, .ref (ad o0)), (1, .ref (ad o1))]) hx hb dX5_beginWays_9 rfl hl (by decide) rfl (fun ls hl => ?_)
  obtain ⟨fu10, hq⟩ := hq
  have lp10 : ∀ (fu10 : Nat) (x6 : Int32) (J7 : zL) (H : Heap) (locs : List Loc) (ls : Array Slot), lpX5_beginWays_10 o0 o1 M4 Q fu10 x6 J7 → zH D Y ad kd RL M4 J7 A s.heap H locs s → lv_has ls 3 [(0, .ref (ad o0)), (1, .ref (ad o1)), (2, .int x6)] → W p l e rmX5_beginWays s m ar below meth c H locs 0 0 QE (F0 m 10 ls []) := by
    intro fu10
    induction fu10 with
    | zero => intro x6 J7 H locs ls hq; exact hq.elim
    | succ fu10 ih10 =>
      intro x6 J7 H locs ls hq hw hl
      unfold lpX5_beginWays_10 at hq
      refine lv_iload_n hx hb dX5_beginWays_10 rfl (lv_at hl 2 rfl) ?_
      refine lv_iconst (v := (4 : Int32)) hx hb dX5_beginWays_11 (by decide) ?_
      refine lv_icmp_ge (tgt := 47) hx hb dX5_beginWays_12 (by decide) (fun hc => ?_) (fun hc => ?_)
      · have hq := hq.1 hc
        exact z_vret hQE hx hb hr hlk hw dX5_beginWays_47 hq
      · have hq := hq.2 hc
        refine lv_aload_n hx hb dX5_beginWays_15 rfl (lv_at hl 0 rfl) ?_
        refine zg5_ways hx hb g5 hown hw h_o0 q1 dX5_beginWays_16 ?_
        refine lv_iload_n hx hb dX5_beginWays_19 rfl (lv_at hl 2 rfl) ?_
        refine lv_aload_n hx hb dX5_beginWays_20 rfl (lv_at hl 0 rfl) ?_
        refine lv_aload_n hx hb dX5_beginWays_21 rfl (lv_at hl 1 rfl) ?_
        refine lv_iconst (v := (0 : Int32)) hx hb dX5_beginWays_22 (by decide) ?_
        refine lv_iload_n hx hb dX5_beginWays_23 rfl (lv_at hl 2 rfl) ?_
        refine lv_iconst (v := (2 : Int32)) hx hb dX5_beginWays_24 (by decide) ?_
        refine lv_idiv hx hb dX5_beginWays_25 (by decide) ?_
        refine z_cvi ⟨hx, hb, hml, hown, hts⟩ hw h_o0 (kX5_waysOf h_o0 h_o1 hq) (by decide) rfl (cwV 3 hts gX5_beginWays_X5_waysOf rfl rfl rfl (by decide +kernel) ⟨Nat.le_of_ble_eq_true rfl, Nat.le_of_ble_eq_true rfl⟩) rfl hl.1 rfl (Nat.le_of_ble_eq_true rfl) dX5_beginWays_26 ⟨Nat.zero_le _, Nat.zero_le _⟩ (fun r8 M0 J0 H locs hq hw => ?_)
        obtain ⟨hq, rfl, rfl⟩ := hq
        refine lv_aload_n hx hb dX5_beginWays_29 rfl (lv_at hl 0 rfl) ?_
        refine lv_aload_n hx hb dX5_beginWays_30 rfl (lv_at hl 1 rfl) ?_
        refine lv_iconst (v := (1 : Int32)) hx hb dX5_beginWays_31 (by decide) ?_
        refine lv_iload_n hx hb dX5_beginWays_32 rfl (lv_at hl 2 rfl) ?_
        refine lv_iconst (v := (2 : Int32)) hx hb dX5_beginWays_33 (by decide) ?_
        refine lv_irem hx hb dX5_beginWays_34 (by decide) ?_
        refine z_cvi ⟨hx, hb, hml, hown, hts⟩ hw h_o0 (kX5_waysOf h_o0 h_o1 hq) (by decide) rfl (cwV 3 hts gX5_beginWays_X5_waysOf rfl rfl rfl (by decide +kernel) ⟨Nat.le_of_ble_eq_true rfl, Nat.le_of_ble_eq_true rfl⟩) rfl hl.1 rfl (Nat.le_of_ble_eq_true rfl) dX5_beginWays_35 ⟨Nat.zero_le _, Nat.zero_le _⟩ (fun r9 M0 J0 H locs hq hw => ?_)
        obtain ⟨hq, rfl, rfl⟩ := hq
        refine lv_imul hx hb dX5_beginWays_38 ?_
        refine lv_i2l hx hb dX5_beginWays_39 rfl ?_
        obtain ⟨hi, hq⟩ := hq
        refine z_last hx hb hw (zk_5_w hC h_o0 _) hi dX5_beginWays_40 (fun H locs hw => ?_)
        obtain ⟨J10, e_J10⟩ : ∃ y : zL, y = va_up J7 (zw (M4 o0 1) o0) (vp_updL (J7 (zw (M4 o0 1) o0)) x6.toNatClampNeg (r8 * r9).toInt64) := ⟨_, rfl⟩
        rw [← e_J10] at hw
        have hq := hq J10 e_J10
        obtain ⟨x11, e_x11⟩ : ∃ y : Int32, y = x6 + (1 : Int32) := ⟨_, rfl⟩
        have hq := hq x11 e_x11
        refine lv_iinc (v := x11) (lv' := [(2, .int x11), (0, .ref (ad o0)), (1, .ref (ad o1))]) hx hb dX5_beginWays_41 hl (k := 2) rfl (by rw [e_x11]; rfl) (by decide) rfl (fun ls hl => ?_)
        refine lv_goto (tgt := 10) hx hb dX5_beginWays_44 (by decide) ?_
        exact ih10 x11 J10 _ _ _ hq hw (lv_sub hl [1, 2, 0] rfl)
  exact lp10 fu10 (0 : Int32) J5 _ _ _ hq hw (lv_sub hl [1, 2, 0] rfl)
theorem dX5_commonDivisor_0 : decode cX5_commonDivisor 0 = .ok (.lload_n 0, 1) := by decide +kernel
theorem dX5_commonDivisor_1 : decode cX5_commonDivisor 1 = .ok (.lstore 4, 2) := by decide +kernel
theorem dX5_commonDivisor_3 : decode cX5_commonDivisor 3 = .ok (.lload_n 2, 1) := by decide +kernel
theorem dX5_commonDivisor_4 : decode cX5_commonDivisor 4 = .ok (.lstore 6, 2) := by decide +kernel
theorem dX5_commonDivisor_6 : decode cX5_commonDivisor 6 = .ok (.iconst 0, 1) := by decide +kernel
theorem dX5_commonDivisor_7 : decode cX5_commonDivisor 7 = .ok (.istore 8, 2) := by decide +kernel
theorem dX5_commonDivisor_9 : decode cX5_commonDivisor 9 = .ok (.iload 8, 2) := by decide +kernel
theorem dX5_commonDivisor_11 : decode cX5_commonDivisor 11 = .ok (.bipush 100, 2) := by decide +kernel
theorem dX5_commonDivisor_13 : decode cX5_commonDivisor 13 = .ok (.if_icmp .ge 31, 3) := by decide +kernel
theorem dX5_commonDivisor_16 : decode cX5_commonDivisor 16 = .ok (.lload 6, 2) := by decide +kernel
theorem dX5_commonDivisor_18 : decode cX5_commonDivisor 18 = .ok (.lconst 0, 1) := by decide +kernel
theorem dX5_commonDivisor_19 : decode cX5_commonDivisor 19 = .ok (.lcmp, 1) := by decide +kernel
theorem dX5_commonDivisor_20 : decode cX5_commonDivisor 20 = .ok (.ifCond .eq 24, 3) := by decide +kernel
theorem dX5_commonDivisor_23 : decode cX5_commonDivisor 23 = .ok (.lload 4, 2) := by decide +kernel
theorem dX5_commonDivisor_25 : decode cX5_commonDivisor 25 = .ok (.lload 6, 2) := by decide +kernel
theorem dX5_commonDivisor_27 : decode cX5_commonDivisor 27 = .ok (.lrem, 1) := by decide +kernel
theorem dX5_commonDivisor_28 : decode cX5_commonDivisor 28 = .ok (.lstore 9, 2) := by decide +kernel
theorem dX5_commonDivisor_30 : decode cX5_commonDivisor 30 = .ok (.lload 6, 2) := by decide +kernel
theorem dX5_commonDivisor_32 : decode cX5_commonDivisor 32 = .ok (.lstore 4, 2) := by decide +kernel
theorem dX5_commonDivisor_34 : decode cX5_commonDivisor 34 = .ok (.lload 9, 2) := by decide +kernel
theorem dX5_commonDivisor_36 : decode cX5_commonDivisor 36 = .ok (.lstore 6, 2) := by decide +kernel
theorem dX5_commonDivisor_38 : decode cX5_commonDivisor 38 = .ok (.iinc 8 1, 3) := by decide +kernel
theorem dX5_commonDivisor_41 : decode cX5_commonDivisor 41 = .ok (.goto (-32), 3) := by decide +kernel
theorem dX5_commonDivisor_44 : decode cX5_commonDivisor 44 = .ok (.lload 4, 2) := by decide +kernel
theorem dX5_commonDivisor_46 : decode cX5_commonDivisor 46 = .ok (.lreturn, 1) := by decide +kernel
def rmX5_commonDivisor : Room := { frames := 0, cells := 0, slots := 0, locals := 0 }
def lpX5_commonDivisor_9 (Q : Int64 → Prop) : Nat → Int64 → Int64 → Int32 → Prop
  | 0, _, _, _ => False
  | fu9 + 1, y6, y7, x8 =>
    (((100 : Int32) ≤ x8) → (
    Q y6)) ∧
    ((¬ (100 : Int32) ≤ x8) → (
    (((lg_cmp y7 (0 : Int64)) = 0) → (
    Q y6)) ∧
    ((¬ (lg_cmp y7 (0 : Int64)) = 0) → (
    ¬ y7 = 0 ∧
    ∀ x9 : Int32, x9 = x8 + (1 : Int32) →
    lpX5_commonDivisor_9 Q fu9 y7 (y6 - y6 / y7 * y7) x9))))
def wX5_commonDivisor (M : zM) (y0 : Int64) (y2 : Int64) (Q : Int64 → Prop) : Prop :=
    ∃ fu9 : Nat, lpX5_commonDivisor_9 Q fu9 y0 y2 (0 : Int32)
set_option maxHeartbeats 4000000 in
set_option maxRecDepth 100000 in
theorem kX5_commonDivisor {l : Launch} {D : va_G} {Y : zY} {ad kd : Nat → Nat} {RL : List Nat} {M : zM} {J : zL} {y0 : Int64} {y2 : Int64}  {Q : Int64 → Prop} (hq : wX5_commonDivisor M y0 y2 Q) : zCl_ l yX5_commonDivisor wsX5_commonDivisor rmX5_commonDivisor [.long y0, .long y2] D Y ad kd RL M J (fun r M' J' => Q r ∧ M = M' ∧ J = J') := by
  refine z_metl (cc := cX5_commonDivisor) (maxL := 11) (ret := (some .long)) (by decide) rfl (Nat.le_of_ble_eq_true rfl) ?_
  intro p e s m below meth c ls A ar QE hQE hx hb hr hml hown hts hlk hw hl
  have hown : s.vm.findClass RX5 = some m.cls := hown
  have hl : lv_has ls 11 [(0, .long y0), (2, .long y2)] := hl
  have hC := hw.2.2.2.2.2.1
  unfold wX5_commonDivisor at hq
  refine lv_lload_n hx hb dX5_commonDivisor_0 rfl (lv_at hl 0 rfl) ?_
  refine lv_lstore (lv' := [(4, .long y0), (0, .long y0), (2, .long y2)]) hx hb dX5_commonDivisor_1 hl (by decide) rfl (fun ls hl => ?_)
  refine lv_lload_n hx hb dX5_commonDivisor_3 rfl (lv_at hl 2 rfl) ?_
  refine lv_lstore (lv' := [(6, .long y2), (4, .long y0), (0, .long y0), (2, .long y2)]) hx hb dX5_commonDivisor_4 hl (by decide) rfl (fun ls hl => ?_)
  refine lv_iconst (v := (0 : Int32)) hx hb dX5_commonDivisor_6 (by decide) ?_
  refine lv_istore (lv' := [(8, .int (0 : Int32)), (6, .long y2), (4, .long y0), (0, .long y0), (2, .long y2)]) hx hb dX5_commonDivisor_7 hl (by decide) rfl (fun ls hl => ?_)
  obtain ⟨fu9, hq⟩ := hq
  have lp9 : ∀ (fu9 : Nat) (y6 : Int64) (y7 : Int64) (x8 : Int32) (H : Heap) (locs : List Loc) (ls : Array Slot), lpX5_commonDivisor_9 Q fu9 y6 y7 x8 → zH D Y ad kd RL M J A s.heap H locs s → lv_has ls 11 [(4, .long y6), (6, .long y7), (8, .int x8)] → W p l e rmX5_commonDivisor s m ar below meth c H locs 0 0 QE (F0 m 9 ls []) := by
    intro fu9
    induction fu9 with
    | zero => intro y6 y7 x8 H locs ls hq; exact hq.elim
    | succ fu9 ih9 =>
      intro y6 y7 x8 H locs ls hq hw hl
      unfold lpX5_commonDivisor_9 at hq
      refine lv_iload hx hb dX5_commonDivisor_9 (lv_at hl 2 rfl) ?_
      refine lv_bipush (v := (100 : Int32)) hx hb dX5_commonDivisor_11 (by decide) ?_
      refine lv_icmp_ge (tgt := 44) hx hb dX5_commonDivisor_13 (by decide) (fun hc => ?_) (fun hc => ?_)
      · have hq := hq.1 hc
        refine lv_lload hx hb dX5_commonDivisor_44 (lv_at hl 0 rfl) ?_
        exact z_lret hQE hx hb hr hlk hw dX5_commonDivisor_46 ⟨hq, rfl, rfl⟩
      · have hq := hq.2 hc
        refine lv_lload hx hb dX5_commonDivisor_16 (lv_at hl 1 rfl) ?_
        refine lv_lconst (v := (0 : Int64)) hx hb dX5_commonDivisor_18 (by decide) ?_
        refine W.lcmp hx hb dX5_commonDivisor_19 ?_
        refine lv_if_eq (tgt := 44) hx hb dX5_commonDivisor_20 (by decide) (fun hc => ?_) (fun hc => ?_)
        · have hq := hq.1 hc
          refine lv_lload hx hb dX5_commonDivisor_44 (lv_at hl 0 rfl) ?_
          exact z_lret hQE hx hb hr hlk hw dX5_commonDivisor_46 ⟨hq, rfl, rfl⟩
        · have hq := hq.2 hc
          refine lv_lload hx hb dX5_commonDivisor_23 (lv_at hl 0 rfl) ?_
          refine lv_lload hx hb dX5_commonDivisor_25 (lv_at hl 1 rfl) ?_
          obtain ⟨hz, hq⟩ := hq
          refine lv_lrem hx hb dX5_commonDivisor_27 hz ?_
          refine lv_lstore (lv' := [(9, .long (y6 - y6 / y7 * y7)), (4, .long y6), (6, .long y7), (8, .int x8)]) hx hb dX5_commonDivisor_28 hl (by decide) rfl (fun ls hl => ?_)
          refine lv_lload hx hb dX5_commonDivisor_30 (lv_at hl 2 rfl) ?_
          refine lv_lstore (lv' := [(4, .long y7), (9, .long (y6 - y6 / y7 * y7)), (6, .long y7), (8, .int x8)]) hx hb dX5_commonDivisor_32 hl (by decide) rfl (fun ls hl => ?_)
          refine lv_lload hx hb dX5_commonDivisor_34 (lv_at hl 1 rfl) ?_
          refine lv_lstore (lv' := [(6, .long (y6 - y6 / y7 * y7)), (4, .long y7), (9, .long (y6 - y6 / y7 * y7)), (8, .int x8)]) hx hb dX5_commonDivisor_36 hl (by decide) rfl (fun ls hl => ?_)
          obtain ⟨x9, e_x9⟩ : ∃ y : Int32, y = x8 + (1 : Int32) := ⟨_, rfl⟩
          have hq := hq x9 e_x9
          refine lv_iinc (v := x9) (lv' := [(8, .int x9), (6, .long (y6 - y6 / y7 * y7)), (4, .long y7), (9, .long (y6 - y6 / y7 * y7))]) hx hb dX5_commonDivisor_38 hl (k := 3) rfl (by rw [e_x9]; rfl) (by decide) rfl (fun ls hl => ?_)
          refine lv_goto (tgt := 9) hx hb dX5_commonDivisor_41 (by decide) ?_
          exact ih9 y7 (y6 - y6 / y7 * y7) x9 _ _ _ hq hw (lv_sub hl [2, 1, 0] rfl)
  exact lp9 fu9 y0 y2 (0 : Int32) _ _ _ hq hw (lv_sub hl [2, 1, 0] rfl)
set_option maxRecDepth 20000 in
theorem ggX5_solve_X5_beginWays : GoodIn wsX5_solve wsX5_beginWays := goodIn_r _ [11, 4, 12, 13, 14, 15, 16, 17, 18, 10, 19, 1, 20, 21, 22, 23, 24, 25, 26, 27, 28, 29, 30, 31, 32, 33, 34, 35, 36, 37, 38, 39, 63, 64, 65, 66, 67, 68, 69, 70, 71, 72, 73] (by decide +kernel) (by decide +kernel)
set_option maxRecDepth 20000 in
theorem gX5_solve_X5_beginWays : GoodIn wsX5_solve (wsV RX5 27 RX5 yX5_beginWays wsX5_beginWays) := goodIn_app (goodIn_of _ (by decide +kernel)) ggX5_solve_X5_beginWays
set_option maxRecDepth 20000 in
theorem ggX5_solve_X5_goOn : GoodIn wsX5_solve wsX5_goOn := goodIn_r _ [43, 44, 4, 12, 13, 14, 15, 16, 17, 18, 10, 19, 1, 20, 21, 22, 23, 24, 25, 26, 27, 28, 29, 30, 31, 32, 33, 34, 35, 36, 37, 38, 39, 45, 46, 47, 48, 49, 50, 51, 52, 53, 54, 55, 56, 57, 58, 59, 63, 64, 65, 66, 67, 68, 69, 70, 71, 72, 73] (by decide +kernel) (by decide +kernel)
set_option maxRecDepth 20000 in
theorem gX5_solve_X5_goOn : GoodIn wsX5_solve (wsV RX5 36 RX5 yX5_goOn wsX5_goOn) := goodIn_app (goodIn_of _ (by decide +kernel)) ggX5_solve_X5_goOn
set_option maxRecDepth 20000 in
theorem ggX5_solve_X5_settles : GoodIn wsX5_solve wsX5_settles := goodIn_r _ [22, 23, 24, 25, 26, 27, 28, 29, 30, 31, 32, 33, 34, 35, 36, 37, 38, 39, 68, 69, 70, 71, 72, 73] (by decide +kernel) (by decide +kernel)
set_option maxRecDepth 20000 in
theorem gX5_solve_X5_settles : GoodIn wsX5_solve (va_wsS RX5 40 yX5_settles wsX5_settles) := goodIn_app (goodIn_of _ (by decide +kernel)) ggX5_solve_X5_settles
set_option maxRecDepth 20000 in
theorem ggX5_solve_X5_commonDivisor : GoodIn wsX5_solve wsX5_commonDivisor := goodIn_r _ [62] (by decide +kernel) (by decide +kernel)
set_option maxRecDepth 20000 in
theorem gX5_solve_X5_commonDivisor : GoodIn wsX5_solve (va_wsS RX5 46 yX5_commonDivisor wsX5_commonDivisor) := goodIn_app (goodIn_of _ (by decide +kernel)) ggX5_solve_X5_commonDivisor
theorem dX5_solve_0 : decode cX5_solve 0 = .ok (.aload_n 0, 1) := by decide +kernel
theorem dX5_solve_1 : decode cX5_solve 1 = .ok (.iload_n 3, 1) := by decide +kernel
theorem dX5_solve_2 : decode cX5_solve 2 = .ok (.putfield 23, 3) := by decide +kernel
theorem dX5_solve_5 : decode cX5_solve 5 = .ok (.aload_n 0, 1) := by decide +kernel
theorem dX5_solve_6 : decode cX5_solve 6 = .ok (.aload_n 1, 1) := by decide +kernel
theorem dX5_solve_7 : decode cX5_solve 7 = .ok (.invokevirtual 27, 3) := by decide +kernel
theorem dX5_solve_10 : decode cX5_solve 10 = .ok (.iconst 0, 1) := by decide +kernel
theorem dX5_solve_11 : decode cX5_solve 11 = .ok (.istore 4, 2) := by decide +kernel
theorem dX5_solve_13 : decode cX5_solve 13 = .ok (.iload 4, 2) := by decide +kernel
theorem dX5_solve_15 : decode cX5_solve 15 = .ok (.aload_n 1, 1) := by decide +kernel
theorem dX5_solve_16 : decode cX5_solve 16 = .ok (.getfield 31, 3) := by decide +kernel
theorem dX5_solve_19 : decode cX5_solve 19 = .ok (.iconst 1, 1) := by decide +kernel
theorem dX5_solve_20 : decode cX5_solve 20 = .ok (.isub, 1) := by decide +kernel
theorem dX5_solve_21 : decode cX5_solve 21 = .ok (.if_icmp .ge 17, 3) := by decide +kernel
theorem dX5_solve_24 : decode cX5_solve 24 = .ok (.aload_n 0, 1) := by decide +kernel
theorem dX5_solve_25 : decode cX5_solve 25 = .ok (.aload_n 1, 1) := by decide +kernel
theorem dX5_solve_26 : decode cX5_solve 26 = .ok (.iload 4, 2) := by decide +kernel
theorem dX5_solve_28 : decode cX5_solve 28 = .ok (.iload_n 2, 1) := by decide +kernel
theorem dX5_solve_29 : decode cX5_solve 29 = .ok (.invokevirtual 36, 3) := by decide +kernel
theorem dX5_solve_32 : decode cX5_solve 32 = .ok (.iinc 4 1, 3) := by decide +kernel
theorem dX5_solve_35 : decode cX5_solve 35 = .ok (.goto (-22), 3) := by decide +kernel
theorem dX5_solve_38 : decode cX5_solve 38 = .ok (.aload_n 0, 1) := by decide +kernel
theorem dX5_solve_39 : decode cX5_solve 39 = .ok (.lconst 0, 1) := by decide +kernel
theorem dX5_solve_40 : decode cX5_solve 40 = .ok (.putfield 7, 3) := by decide +kernel
theorem dX5_solve_43 : decode cX5_solve 43 = .ok (.iconst 0, 1) := by decide +kernel
theorem dX5_solve_44 : decode cX5_solve 44 = .ok (.istore 4, 2) := by decide +kernel
theorem dX5_solve_46 : decode cX5_solve 46 = .ok (.iload 4, 2) := by decide +kernel
theorem dX5_solve_48 : decode cX5_solve 48 = .ok (.bipush 8, 2) := by decide +kernel
theorem dX5_solve_50 : decode cX5_solve 50 = .ok (.if_icmp .ge 25, 3) := by decide +kernel
theorem dX5_solve_53 : decode cX5_solve 53 = .ok (.aload_n 0, 1) := by decide +kernel
theorem dX5_solve_54 : decode cX5_solve 54 = .ok (.dup, 1) := by decide +kernel
theorem dX5_solve_55 : decode cX5_solve 55 = .ok (.getfield 7, 3) := by decide +kernel
theorem dX5_solve_58 : decode cX5_solve 58 = .ok (.aload_n 0, 1) := by decide +kernel
theorem dX5_solve_59 : decode cX5_solve 59 = .ok (.getfield 16, 3) := by decide +kernel
theorem dX5_solve_62 : decode cX5_solve 62 = .ok (.iload 4, 2) := by decide +kernel
theorem dX5_solve_64 : decode cX5_solve 64 = .ok (.laload, 1) := by decide +kernel
theorem dX5_solve_65 : decode cX5_solve 65 = .ok (.ladd, 1) := by decide +kernel
theorem dX5_solve_66 : decode cX5_solve 66 = .ok (.putfield 7, 3) := by decide +kernel
theorem dX5_solve_69 : decode cX5_solve 69 = .ok (.iinc 4 1, 3) := by decide +kernel
theorem dX5_solve_72 : decode cX5_solve 72 = .ok (.goto (-26), 3) := by decide +kernel
theorem dX5_solve_75 : decode cX5_solve 75 = .ok (.aload_n 0, 1) := by decide +kernel
theorem dX5_solve_76 : decode cX5_solve 76 = .ok (.lconst 1, 1) := by decide +kernel
theorem dX5_solve_77 : decode cX5_solve 77 = .ok (.putfield 13, 3) := by decide +kernel
theorem dX5_solve_80 : decode cX5_solve 80 = .ok (.iconst 0, 1) := by decide +kernel
theorem dX5_solve_81 : decode cX5_solve 81 = .ok (.istore 4, 2) := by decide +kernel
theorem dX5_solve_83 : decode cX5_solve 83 = .ok (.iload 4, 2) := by decide +kernel
theorem dX5_solve_85 : decode cX5_solve 85 = .ok (.aload_n 1, 1) := by decide +kernel
theorem dX5_solve_86 : decode cX5_solve 86 = .ok (.getfield 31, 3) := by decide +kernel
theorem dX5_solve_89 : decode cX5_solve 89 = .ok (.if_icmp .ge 34, 3) := by decide +kernel
theorem dX5_solve_92 : decode cX5_solve 92 = .ok (.aload_n 0, 1) := by decide +kernel
theorem dX5_solve_93 : decode cX5_solve 93 = .ok (.dup, 1) := by decide +kernel
theorem dX5_solve_94 : decode cX5_solve 94 = .ok (.getfield 13, 3) := by decide +kernel
theorem dX5_solve_97 : decode cX5_solve 97 = .ok (.aload_n 1, 1) := by decide +kernel
theorem dX5_solve_98 : decode cX5_solve 98 = .ok (.iload 4, 2) := by decide +kernel
theorem dX5_solve_100 : decode cX5_solve 100 = .ok (.invokestatic 40, 3) := by decide +kernel
theorem dX5_solve_103 : decode cX5_solve 103 = .ok (.ifCond .eq 9, 3) := by decide +kernel
theorem dX5_solve_106 : decode cX5_solve 106 = .ok (.ldc2_w 44, 3) := by decide +kernel
theorem dX5_solve_109 : decode cX5_solve 109 = .ok (.goto 4, 3) := by decide +kernel
theorem dX5_solve_112 : decode cX5_solve 112 = .ok (.lconst 1, 1) := by decide +kernel
theorem dX5_solve_113 : decode cX5_solve 113 = .ok (.lmul, 1) := by decide +kernel
theorem dX5_solve_114 : decode cX5_solve 114 = .ok (.putfield 13, 3) := by decide +kernel
theorem dX5_solve_117 : decode cX5_solve 117 = .ok (.iinc 4 1, 3) := by decide +kernel
theorem dX5_solve_120 : decode cX5_solve 120 = .ok (.goto (-37), 3) := by decide +kernel
theorem dX5_solve_123 : decode cX5_solve 123 = .ok (.aload_n 0, 1) := by decide +kernel
theorem dX5_solve_124 : decode cX5_solve 124 = .ok (.getfield 13, 3) := by decide +kernel
theorem dX5_solve_127 : decode cX5_solve 127 = .ok (.aload_n 0, 1) := by decide +kernel
theorem dX5_solve_128 : decode cX5_solve 128 = .ok (.getfield 7, 3) := by decide +kernel
theorem dX5_solve_131 : decode cX5_solve 131 = .ok (.invokestatic 46, 3) := by decide +kernel
theorem dX5_solve_134 : decode cX5_solve 134 = .ok (.lstore 4, 2) := by decide +kernel
theorem dX5_solve_136 : decode cX5_solve 136 = .ok (.lload 4, 2) := by decide +kernel
theorem dX5_solve_138 : decode cX5_solve 138 = .ok (.lconst 1, 1) := by decide +kernel
theorem dX5_solve_139 : decode cX5_solve 139 = .ok (.lcmp, 1) := by decide +kernel
theorem dX5_solve_140 : decode cX5_solve 140 = .ok (.ifCond .le 25, 3) := by decide +kernel
theorem dX5_solve_143 : decode cX5_solve 143 = .ok (.aload_n 0, 1) := by decide +kernel
theorem dX5_solve_144 : decode cX5_solve 144 = .ok (.dup, 1) := by decide +kernel
theorem dX5_solve_145 : decode cX5_solve 145 = .ok (.getfield 7, 3) := by decide +kernel
theorem dX5_solve_148 : decode cX5_solve 148 = .ok (.lload 4, 2) := by decide +kernel
theorem dX5_solve_150 : decode cX5_solve 150 = .ok (.ldiv, 1) := by decide +kernel
theorem dX5_solve_151 : decode cX5_solve 151 = .ok (.putfield 7, 3) := by decide +kernel
theorem dX5_solve_154 : decode cX5_solve 154 = .ok (.aload_n 0, 1) := by decide +kernel
theorem dX5_solve_155 : decode cX5_solve 155 = .ok (.dup, 1) := by decide +kernel
theorem dX5_solve_156 : decode cX5_solve 156 = .ok (.getfield 13, 3) := by decide +kernel
theorem dX5_solve_159 : decode cX5_solve 159 = .ok (.lload 4, 2) := by decide +kernel
theorem dX5_solve_161 : decode cX5_solve 161 = .ok (.ldiv, 1) := by decide +kernel
theorem dX5_solve_162 : decode cX5_solve 162 = .ok (.putfield 13, 3) := by decide +kernel
theorem dX5_solve_165 : decode cX5_solve 165 = .ok (.return_, 1) := by decide +kernel
def rmX5_solve : Room := { frames := 5, cells := 0, slots := 0, locals := 117 }
def lpX5_solve_83 (o0 : Nat) (o1 : Nat) (M13 : zM) (K83_123 : Int32 → zL → Prop) : Nat → Int32 → zL → Prop
  | 0, _, _ => False
  | fu83 + 1, x21, J22 =>
    (((M13 o1 0) ≤ x21) → (
    K83_123 x21 J22)) ∧
    ((¬ (M13 o1 0) ≤ x21) → (
    wX5_settles M13 o1 x21 (fun r28 =>
    ((r28 = 0) → (
    ∀ J29 : zL, J29 = va_up J22 o0 (vp_updL (J22 o0) 1 ((J22 o0 1) * (1 : Int64))) →
    ∀ x30 : Int32, x30 = x21 + (1 : Int32) →
    lpX5_solve_83 o0 o1 M13 K83_123 fu83 x30 J29)) ∧
    ((¬ r28 = 0) → (
    ∀ J31 : zL, J31 = va_up J22 o0 (vp_updL (J22 o0) 1 ((J22 o0 1) * (10 : Int64))) →
    ∀ x32 : Int32, x32 = x21 + (1 : Int32) →
    lpX5_solve_83 o0 o1 M13 K83_123 fu83 x32 J31)))))
def lpX5_solve_46 (o0 : Nat) (M13 : zM) (K46_75 : Int32 → zL → Prop) : Nat → Int32 → zL → Prop
  | 0, _, _ => False
  | fu46 + 1, x16, J17 =>
    (((8 : Int32) ≤ x16) → (
    K46_75 x16 J17)) ∧
    ((¬ (8 : Int32) ≤ x16) → (
    vp_in x16 8 ∧
    ∀ y33 : Int64, y33 = ((J17 o0 0) + (J17 (zw (M13 o0 1) o0) x16.toNatClampNeg)) →
    ∀ J34 : zL, J34 = va_up J17 o0 (vp_updL (J17 o0) 0 y33) →
    ∀ x35 : Int32, x35 = x16 + (1 : Int32) →
    lpX5_solve_46 o0 M13 K46_75 fu46 x35 J34))
def lpX5_solve_13 (o0 : Nat) (o1 : Nat) (x2 : Int32) (K13_38 : Int32 → zM → zL → Prop) : Nat → Int32 → zM → zL → Prop
  | 0, _, _, _ => False
  | fu13 + 1, x9, M10, J11 =>
    ((((M10 o1 0) - (1 : Int32)) ≤ x9) → (
    K13_38 x9 M10 J11)) ∧
    ((¬ ((M10 o1 0) - (1 : Int32)) ≤ x9) → (
    wX5_goOn M10 J11 o0 o1 x9 x2 (fun M36 J37 =>
    ∀ x38 : Int32, x38 = x9 + (1 : Int32) →
    lpX5_solve_13 o0 o1 x2 K13_38 fu13 x38 M36 J37)))
def wX5_solve (M : zM) (J : zL) (o0 : Nat) (o1 : Nat) (x2 : Int32) (x3 : Int32) (Q : zM → zL → Prop) : Prop :=
    ∀ M6 : zM, M6 = va_up M o0 (upd (M o0) 0 x3) →
    wX5_beginWays M6 J o0 o1 (fun M7 J8 =>
    ∃ fu13 : Nat, lpX5_solve_13 o0 o1 x2 (fun x12 M13 J14 =>
    ∀ J15 : zL, J15 = va_up J14 o0 (vp_updL (J14 o0) 0 (0 : Int64)) →
    ∃ fu46 : Nat, lpX5_solve_46 o0 M13 (fun x18 J19 =>
    ∀ J20 : zL, J20 = va_up J19 o0 (vp_updL (J19 o0) 1 (1 : Int64)) →
    ∃ fu83 : Nat, lpX5_solve_83 o0 o1 M13 (fun x23 J24 =>
    wX5_commonDivisor M13 (J24 o0 1) (J24 o0 0) (fun y25 =>
    (((lg_cmp y25 (1 : Int64)) ≤ 0) → (
    Q M13 J24)) ∧
    ((¬ (lg_cmp y25 (1 : Int64)) ≤ 0) → (
    ¬ y25 = 0 ∧
    ∀ J26 : zL, J26 = va_up J24 o0 (vp_updL (J24 o0) 0 ((J24 o0 0) / y25)) →
    ¬ y25 = 0 ∧
    ∀ J27 : zL, J27 = va_up J26 o0 (vp_updL (J26 o0) 1 ((J26 o0 1) / y25)) →
    Q M13 J27)))) fu83 (0 : Int32) J20) fu46 (0 : Int32) J15) fu13 (0 : Int32) M7 J8)
set_option maxHeartbeats 4000000 in
set_option maxRecDepth 100000 in
theorem kX5_solve {l : Launch} {D : va_G} {Y : zY} {ad kd : Nat → Nat} {RL : List Nat} {M : zM} {J : zL} {o0 : Nat} {o1 : Nat} {x2 : Int32} {x3 : Int32} (h_o0 : kd o0 = 5) (h_o1 : kd o1 = 2) {Q : zM → zL → Prop} (hq : wX5_solve M J o0 o1 x2 x3 Q) : zCv l yX5_solve wsX5_solve rmX5_solve [.ref (ad o0), .ref (ad o1), .int x2, .int x3] D Y ad kd RL M J (fun M' J' => Q M' J') := by
  refine z_metv (cc := cX5_solve) (maxL := 6) (ret := none) (by decide) rfl (Nat.le_of_ble_eq_true rfl) ?_
  intro p e s m below meth c ls A ar QE hQE hx hb hr hml hown hts hlk hw hl
  have hown : s.vm.findClass RX5 = some m.cls := hown
  have hl : lv_has ls 6 [(0, .ref (ad o0)), (1, .ref (ad o1)), (2, .int x2), (3, .int x3)] := hl
  have hC := hw.2.2.2.2.2.1
  have g2 : ∀ w ∈ wsX20, w.before ar s = true := (fun w h => hts w (List.mem_cons_of_mem _ (List.mem_append_right _ h)))
  have g5 : ∀ w ∈ wsX50, w.before ar s = true := (fun w h => hts w (List.mem_cons_of_mem _ (List.mem_append_left _ (List.mem_append_right _ h))))
  have q1 := hts _ (List.mem_of_getElem? (i := 1) rfl)
  have q2 := hts _ (List.mem_of_getElem? (i := 2) rfl)
  have q3 := hts _ (List.mem_of_getElem? (i := 3) rfl)
  have q4 := hts _ (List.mem_of_getElem? (i := 4) rfl)
  have q5 := hts _ (List.mem_of_getElem? (i := 5) rfl)
  have q6 := hts _ (List.mem_of_getElem? (i := 6) rfl)
  unfold wX5_solve at hq
  refine lv_aload_n hx hb dX5_solve_0 rfl (lv_at hl 0 rfl) ?_
  refine lv_iload_n hx hb dX5_solve_1 rfl (lv_at hl 3 rfl) ?_
  refine zp5_settled hx hb g5 hown hw h_o0 q1 dX5_solve_2 (fun H locs hw => ?_)
  obtain ⟨M6, e_M6⟩ : ∃ y : zM, y = va_up M o0 (upd (M o0) 0 x3) := ⟨_, rfl⟩
  rw [← e_M6] at hw
  have hq := hq M6 e_M6
  refine lv_aload_n hx hb dX5_solve_5 rfl (lv_at hl 0 rfl) ?_
  refine lv_aload_n hx hb dX5_solve_6 rfl (lv_at hl 1 rfl) ?_
  refine z_cvv ⟨hx, hb, hml, hown, hts⟩ hw h_o0 (kX5_beginWays h_o0 h_o1 hq) (by decide) rfl (cwV 1 hts gX5_solve_X5_beginWays rfl rfl rfl (by decide +kernel) ⟨Nat.le_of_ble_eq_true rfl, Nat.le_of_ble_eq_true rfl⟩) rfl hl.1 rfl (Nat.le_of_ble_eq_true rfl) dX5_solve_7 ⟨Nat.zero_le _, Nat.zero_le _⟩ (fun M7 J8 H locs hq hw => ?_)
  refine lv_iconst (v := (0 : Int32)) hx hb dX5_solve_10 (by decide) ?_
  refine lv_istore (lv' := [(4, .int (0 : Int32)), (0, .ref (ad o0)), (1, .ref (ad o1)), (2, .int x2), (3, .int x3)]) hx hb dX5_solve_11 hl (by decide) rfl (fun ls hl => ?_)
  have ex13_38 : ∀ (x12 : Int32) (M13 : zM) (J14 : zL) (H : Heap) (locs : List Loc) (ls : Array Slot), (∀ J15 : zL, J15 = va_up J14 o0 (vp_updL (J14 o0) 0 (0 : Int64)) → ∃ fu46 : Nat, lpX5_solve_46 o0 M13 (fun x18 J19 => ∀ J20 : zL, J20 = va_up J19 o0 (vp_updL (J19 o0) 1 (1 : Int64)) → ∃ fu83 : Nat, lpX5_solve_83 o0 o1 M13 (fun x23 J24 => wX5_commonDivisor M13 (J24 o0 1) (J24 o0 0) (fun y25 => (((lg_cmp y25 (1 : Int64)) ≤ 0) → ( Q M13 J24)) ∧ ((¬ (lg_cmp y25 (1 : Int64)) ≤ 0) → ( ¬ y25 = 0 ∧ ∀ J26 : zL, J26 = va_up J24 o0 (vp_updL (J24 o0) 0 ((J24 o0 0) / y25)) → ¬ y25 = 0 ∧ ∀ J27 : zL, J27 = va_up J26 o0 (vp_updL (J26 o0) 1 ((J26 o0 1) / y25)) → Q M13 J27)))) fu83 (0 : Int32) J20) fu46 (0 : Int32) J15) → zH D Y ad kd RL M13 J14 A s.heap H locs s → lv_has ls 6 [(0, .ref (ad o0)), (1, .ref (ad o1))] → W p l e rmX5_solve s m ar below meth c H locs 0 0 QE (F0 m 38 ls []) := by
    intro x12 M13 J14 H locs ls hq hw hl
    refine lv_aload_n hx hb dX5_solve_38 rfl (lv_at hl 0 rfl) ?_
    refine lv_lconst (v := (0 : Int64)) hx hb dX5_solve_39 (by decide) ?_
    refine zp5_above hx hb g5 hown hw h_o0 q3 dX5_solve_40 (fun H locs hw => ?_)
    obtain ⟨J15, e_J15⟩ : ∃ y : zL, y = va_up J14 o0 (vp_updL (J14 o0) 0 (0 : Int64)) := ⟨_, rfl⟩
    rw [← e_J15] at hw
    have hq := hq J15 e_J15
    refine lv_iconst (v := (0 : Int32)) hx hb dX5_solve_43 (by decide) ?_
    refine lv_istore (lv' := [(4, .int (0 : Int32)), (0, .ref (ad o0)), (1, .ref (ad o1))]) hx hb dX5_solve_44 hl (by decide) rfl (fun ls hl => ?_)
    have ex46_75 : ∀ (x18 : Int32) (J19 : zL) (H : Heap) (locs : List Loc) (ls : Array Slot), (∀ J20 : zL, J20 = va_up J19 o0 (vp_updL (J19 o0) 1 (1 : Int64)) → ∃ fu83 : Nat, lpX5_solve_83 o0 o1 M13 (fun x23 J24 => wX5_commonDivisor M13 (J24 o0 1) (J24 o0 0) (fun y25 => (((lg_cmp y25 (1 : Int64)) ≤ 0) → ( Q M13 J24)) ∧ ((¬ (lg_cmp y25 (1 : Int64)) ≤ 0) → ( ¬ y25 = 0 ∧ ∀ J26 : zL, J26 = va_up J24 o0 (vp_updL (J24 o0) 0 ((J24 o0 0) / y25)) → ¬ y25 = 0 ∧ ∀ J27 : zL, J27 = va_up J26 o0 (vp_updL (J26 o0) 1 ((J26 o0 1) / y25)) → Q M13 J27)))) fu83 (0 : Int32) J20) → zH D Y ad kd RL M13 J19 A s.heap H locs s → lv_has ls 6 [(0, .ref (ad o0)), (1, .ref (ad o1))] → W p l e rmX5_solve s m ar below meth c H locs 0 0 QE (F0 m 75 ls []) := by
      intro x18 J19 H locs ls hq hw hl
      refine lv_aload_n hx hb dX5_solve_75 rfl (lv_at hl 0 rfl) ?_
      refine lv_lconst (v := (1 : Int64)) hx hb dX5_solve_76 (by decide) ?_
      refine zp5_below hx hb g5 hown hw h_o0 q5 dX5_solve_77 (fun H locs hw => ?_)
      obtain ⟨J20, e_J20⟩ : ∃ y : zL, y = va_up J19 o0 (vp_updL (J19 o0) 1 (1 : Int64)) := ⟨_, rfl⟩
      rw [← e_J20] at hw
      have hq := hq J20 e_J20
      refine lv_iconst (v := (0 : Int32)) hx hb dX5_solve_80 (by decide) ?_
      refine lv_istore (lv' := [(4, .int (0 : Int32)), (0, .ref (ad o0)), (1, .ref (ad o1))]) hx hb dX5_solve_81 hl (by decide) rfl (fun ls hl => ?_)
      have ex83_123 : ∀ (x23 : Int32) (J24 : zL) (H : Heap) (locs : List Loc) (ls : Array Slot), (wX5_commonDivisor M13 (J24 o0 1) (J24 o0 0) (fun y25 => (((lg_cmp y25 (1 : Int64)) ≤ 0) → ( Q M13 J24)) ∧ ((¬ (lg_cmp y25 (1 : Int64)) ≤ 0) → ( ¬ y25 = 0 ∧ ∀ J26 : zL, J26 = va_up J24 o0 (vp_updL (J24 o0) 0 ((J24 o0 0) / y25)) → ¬ y25 = 0 ∧ ∀ J27 : zL, J27 = va_up J26 o0 (vp_updL (J26 o0) 1 ((J26 o0 1) / y25)) → Q M13 J27)))) → zH D Y ad kd RL M13 J24 A s.heap H locs s → lv_has ls 6 [(0, .ref (ad o0))] → W p l e rmX5_solve s m ar below meth c H locs 0 0 QE (F0 m 123 ls []) := by
        intro x23 J24 H locs ls hq hw hl
        refine lv_aload_n hx hb dX5_solve_123 rfl (lv_at hl 0 rfl) ?_
        refine zg5_below hx hb g5 hown hw h_o0 q5 dX5_solve_124 ?_
        refine lv_aload_n hx hb dX5_solve_127 rfl (lv_at hl 0 rfl) ?_
        refine zg5_above hx hb g5 hown hw h_o0 q3 dX5_solve_128 ?_
        refine z_csl ⟨hx, hb, hml, hown, hts⟩ hw (kX5_commonDivisor  hq) (va_cwS 2 hts gX5_solve_X5_commonDivisor rfl rfl rfl (by decide +kernel) ⟨Nat.le_of_ble_eq_true rfl, Nat.le_of_ble_eq_true rfl⟩) rfl hl.1 rfl (Nat.le_of_ble_eq_true rfl) dX5_solve_131 ⟨Nat.zero_le _, Nat.zero_le _⟩ (fun y25 M0 J0 H locs hq hw => ?_)
        obtain ⟨hq, rfl, rfl⟩ := hq
        refine lv_lstore (lv' := [(4, .long y25), (0, .ref (ad o0))]) hx hb dX5_solve_134 hl (by decide) rfl (fun ls hl => ?_)
        refine lv_lload hx hb dX5_solve_136 (lv_at hl 0 rfl) ?_
        refine lv_lconst (v := (1 : Int64)) hx hb dX5_solve_138 (by decide) ?_
        refine W.lcmp hx hb dX5_solve_139 ?_
        refine lv_if_le (tgt := 165) hx hb dX5_solve_140 (by decide) (fun hc => ?_) (fun hc => ?_)
        · have hq := hq.1 hc
          exact z_vret hQE hx hb hr hlk hw dX5_solve_165 hq
        · have hq := hq.2 hc
          refine lv_aload_n hx hb dX5_solve_143 rfl (lv_at hl 1 rfl) ?_
          refine lv_dup hx hb dX5_solve_144 rfl ?_
          refine zg5_above hx hb g5 hown hw h_o0 q3 dX5_solve_145 ?_
          refine lv_lload hx hb dX5_solve_148 (lv_at hl 0 rfl) ?_
          obtain ⟨hz, hq⟩ := hq
          refine lv_ldiv hx hb dX5_solve_150 hz ?_
          refine zp5_above hx hb g5 hown hw h_o0 q3 dX5_solve_151 (fun H locs hw => ?_)
          obtain ⟨J26, e_J26⟩ : ∃ y : zL, y = va_up J24 o0 (vp_updL (J24 o0) 0 ((J24 o0 0) / y25)) := ⟨_, rfl⟩
          rw [← e_J26] at hw
          have hq := hq J26 e_J26
          refine lv_aload_n hx hb dX5_solve_154 rfl (lv_at hl 1 rfl) ?_
          refine lv_dup hx hb dX5_solve_155 rfl ?_
          refine zg5_below hx hb g5 hown hw h_o0 q5 dX5_solve_156 ?_
          refine lv_lload hx hb dX5_solve_159 (lv_at hl 0 rfl) ?_
          obtain ⟨hz, hq⟩ := hq
          refine lv_ldiv hx hb dX5_solve_161 hz ?_
          refine zp5_below hx hb g5 hown hw h_o0 q5 dX5_solve_162 (fun H locs hw => ?_)
          obtain ⟨J27, e_J27⟩ : ∃ y : zL, y = va_up J26 o0 (vp_updL (J26 o0) 1 ((J26 o0 1) / y25)) := ⟨_, rfl⟩
          rw [← e_J27] at hw
          have hq := hq J27 e_J27
          exact z_vret hQE hx hb hr hlk hw dX5_solve_165 hq
      obtain ⟨fu83, hq⟩ := hq
      have lp83 : ∀ (fu83 : Nat) (x21 : Int32) (J22 : zL) (H : Heap) (locs : List Loc) (ls : Array Slot), lpX5_solve_83 o0 o1 M13 (fun x23 J24 => wX5_commonDivisor M13 (J24 o0 1) (J24 o0 0) (fun y25 => (((lg_cmp y25 (1 : Int64)) ≤ 0) → ( Q M13 J24)) ∧ ((¬ (lg_cmp y25 (1 : Int64)) ≤ 0) → ( ¬ y25 = 0 ∧ ∀ J26 : zL, J26 = va_up J24 o0 (vp_updL (J24 o0) 0 ((J24 o0 0) / y25)) → ¬ y25 = 0 ∧ ∀ J27 : zL, J27 = va_up J26 o0 (vp_updL (J26 o0) 1 ((J26 o0 1) / y25)) → Q M13 J27)))) fu83 x21 J22 → zH D Y ad kd RL M13 J22 A s.heap H locs s → lv_has ls 6 [(0, .ref (ad o0)), (1, .ref (ad o1)), (4, .int x21)] → W p l e rmX5_solve s m ar below meth c H locs 0 0 QE (F0 m 83 ls []) := by
        intro fu83
        induction fu83 with
        | zero => intro x21 J22 H locs ls hq; exact hq.elim
        | succ fu83 ih83 =>
          intro x21 J22 H locs ls hq hw hl
          unfold lpX5_solve_83 at hq
          refine lv_iload hx hb dX5_solve_83 (lv_at hl 2 rfl) ?_
          refine lv_aload_n hx hb dX5_solve_85 rfl (lv_at hl 1 rfl) ?_
          refine zg2_pegs hx hb g2 hown hw h_o1 q2 dX5_solve_86 ?_
          refine lv_icmp_ge (tgt := 123) hx hb dX5_solve_89 (by decide) (fun hc => ?_) (fun hc => ?_)
          · have hq := hq.1 hc
            exact ex83_123 x21 J22 _ _ _ hq hw (lv_sub hl [0] rfl)
          · have hq := hq.2 hc
            refine lv_aload_n hx hb dX5_solve_92 rfl (lv_at hl 0 rfl) ?_
            refine lv_dup hx hb dX5_solve_93 rfl ?_
            refine zg5_below hx hb g5 hown hw h_o0 q5 dX5_solve_94 ?_
            refine lv_aload_n hx hb dX5_solve_97 rfl (lv_at hl 1 rfl) ?_
            refine lv_iload hx hb dX5_solve_98 (lv_at hl 2 rfl) ?_
            refine z_csi ⟨hx, hb, hml, hown, hts⟩ hw (kX5_settles h_o1 hq) (va_cwS 2 hts gX5_solve_X5_settles rfl rfl rfl (by decide +kernel) ⟨Nat.le_of_ble_eq_true rfl, Nat.le_of_ble_eq_true rfl⟩) rfl hl.1 rfl (Nat.le_of_ble_eq_true rfl) dX5_solve_100 ⟨Nat.zero_le _, Nat.zero_le _⟩ (fun r28 M0 J0 H locs hq hw => ?_)
            obtain ⟨hq, rfl, rfl⟩ := hq
            refine lv_if_eq (tgt := 112) hx hb dX5_solve_103 (by decide) (fun hc => ?_) (fun hc => ?_)
            · have hq := hq.1 hc
              refine lv_lconst (v := (1 : Int64)) hx hb dX5_solve_112 (by decide) ?_
              refine lv_lmul hx hb dX5_solve_113 ?_
              refine zp5_below hx hb g5 hown hw h_o0 q5 dX5_solve_114 (fun H locs hw => ?_)
              obtain ⟨J29, e_J29⟩ : ∃ y : zL, y = va_up J22 o0 (vp_updL (J22 o0) 1 ((J22 o0 1) * (1 : Int64))) := ⟨_, rfl⟩
              rw [← e_J29] at hw
              have hq := hq J29 e_J29
              obtain ⟨x30, e_x30⟩ : ∃ y : Int32, y = x21 + (1 : Int32) := ⟨_, rfl⟩
              have hq := hq x30 e_x30
              refine lv_iinc (v := x30) (lv' := [(4, .int x30), (0, .ref (ad o0)), (1, .ref (ad o1))]) hx hb dX5_solve_117 hl (k := 2) rfl (by rw [e_x30]; rfl) (by decide) rfl (fun ls hl => ?_)
              refine lv_goto (tgt := 83) hx hb dX5_solve_120 (by decide) ?_
              exact ih83 x30 J29 _ _ _ hq hw (lv_sub hl [1, 2, 0] rfl)
            · have hq := hq.2 hc
              refine lv_ldc2 (v := (10 : Int64)) hx hb hown q6 dX5_solve_106 ?_
              refine lv_goto (tgt := 113) hx hb dX5_solve_109 (by decide) ?_
              refine lv_lmul hx hb dX5_solve_113 ?_
              refine zp5_below hx hb g5 hown hw h_o0 q5 dX5_solve_114 (fun H locs hw => ?_)
              obtain ⟨J31, e_J31⟩ : ∃ y : zL, y = va_up J22 o0 (vp_updL (J22 o0) 1 ((J22 o0 1) * (10 : Int64))) := ⟨_, rfl⟩
              rw [← e_J31] at hw
              have hq := hq J31 e_J31
              obtain ⟨x32, e_x32⟩ : ∃ y : Int32, y = x21 + (1 : Int32) := ⟨_, rfl⟩
              have hq := hq x32 e_x32
              refine lv_iinc (v := x32) (lv' := [(4, .int x32), (0, .ref (ad o0)), (1, .ref (ad o1))]) hx hb dX5_solve_117 hl (k := 2) rfl (by rw [e_x32]; rfl) (by decide) rfl (fun ls hl => ?_)
              refine lv_goto (tgt := 83) hx hb dX5_solve_120 (by decide) ?_
              exact ih83 x32 J31 _ _ _ hq hw (lv_sub hl [1, 2, 0] rfl)
      exact lp83 fu83 (0 : Int32) J20 _ _ _ hq hw (lv_sub hl [1, 2, 0] rfl)
    obtain ⟨fu46, hq⟩ := hq
    have lp46 : ∀ (fu46 : Nat) (x16 : Int32) (J17 : zL) (H : Heap) (locs : List Loc) (ls : Array Slot), lpX5_solve_46 o0 M13 (fun x18 J19 => ∀ J20 : zL, J20 = va_up J19 o0 (vp_updL (J19 o0) 1 (1 : Int64)) → ∃ fu83 : Nat, lpX5_solve_83 o0 o1 M13 (fun x23 J24 => wX5_commonDivisor M13 (J24 o0 1) (J24 o0 0) (fun y25 => (((lg_cmp y25 (1 : Int64)) ≤ 0) → ( Q M13 J24)) ∧ ((¬ (lg_cmp y25 (1 : Int64)) ≤ 0) → ( ¬ y25 = 0 ∧ ∀ J26 : zL, J26 = va_up J24 o0 (vp_updL (J24 o0) 0 ((J24 o0 0) / y25)) → ¬ y25 = 0 ∧ ∀ J27 : zL, J27 = va_up J26 o0 (vp_updL (J26 o0) 1 ((J26 o0 1) / y25)) → Q M13 J27)))) fu83 (0 : Int32) J20) fu46 x16 J17 → zH D Y ad kd RL M13 J17 A s.heap H locs s → lv_has ls 6 [(0, .ref (ad o0)), (1, .ref (ad o1)), (4, .int x16)] → W p l e rmX5_solve s m ar below meth c H locs 0 0 QE (F0 m 46 ls []) := by
      intro fu46
      induction fu46 with
      | zero => intro x16 J17 H locs ls hq; exact hq.elim
      | succ fu46 ih46 =>
        intro x16 J17 H locs ls hq hw hl
        unfold lpX5_solve_46 at hq
        refine lv_iload hx hb dX5_solve_46 (lv_at hl 2 rfl) ?_
        refine lv_bipush (v := (8 : Int32)) hx hb dX5_solve_48 (by decide) ?_
        refine lv_icmp_ge (tgt := 75) hx hb dX5_solve_50 (by decide) (fun hc => ?_) (fun hc => ?_)
        · have hq := hq.1 hc
          exact ex46_75 x16 J17 _ _ _ hq hw (lv_sub hl [0, 1] rfl)
        · have hq := hq.2 hc
          refine lv_aload_n hx hb dX5_solve_53 rfl (lv_at hl 0 rfl) ?_
          refine lv_dup hx hb dX5_solve_54 rfl ?_
          refine zg5_above hx hb g5 hown hw h_o0 q3 dX5_solve_55 ?_
          refine lv_aload_n hx hb dX5_solve_58 rfl (lv_at hl 0 rfl) ?_
          refine zg5_ways hx hb g5 hown hw h_o0 q4 dX5_solve_59 ?_
          refine lv_iload hx hb dX5_solve_62 (lv_at hl 2 rfl) ?_
          obtain ⟨hi, hq⟩ := hq
          refine z_lald hx hb hw (zk_5_w hC h_o0 _) hi dX5_solve_64 ?_
          refine lv_ladd hx hb dX5_solve_65 ?_
          refine lv_topl (fun y33 e_y33 => ?_)
          have hq := hq y33 e_y33
          refine zp5_above hx hb g5 hown hw h_o0 q3 dX5_solve_66 (fun H locs hw => ?_)
          obtain ⟨J34, e_J34⟩ : ∃ y : zL, y = va_up J17 o0 (vp_updL (J17 o0) 0 y33) := ⟨_, rfl⟩
          rw [← e_J34] at hw
          have hq := hq J34 e_J34
          obtain ⟨x35, e_x35⟩ : ∃ y : Int32, y = x16 + (1 : Int32) := ⟨_, rfl⟩
          have hq := hq x35 e_x35
          refine lv_iinc (v := x35) (lv' := [(4, .int x35), (0, .ref (ad o0)), (1, .ref (ad o1))]) hx hb dX5_solve_69 hl (k := 2) rfl (by rw [e_x35]; rfl) (by decide) rfl (fun ls hl => ?_)
          refine lv_goto (tgt := 46) hx hb dX5_solve_72 (by decide) ?_
          exact ih46 x35 J34 _ _ _ hq hw (lv_sub hl [1, 2, 0] rfl)
    exact lp46 fu46 (0 : Int32) J15 _ _ _ hq hw (lv_sub hl [1, 2, 0] rfl)
  obtain ⟨fu13, hq⟩ := hq
  have lp13 : ∀ (fu13 : Nat) (x9 : Int32) (M10 : zM) (J11 : zL) (H : Heap) (locs : List Loc) (ls : Array Slot), lpX5_solve_13 o0 o1 x2 (fun x12 M13 J14 => ∀ J15 : zL, J15 = va_up J14 o0 (vp_updL (J14 o0) 0 (0 : Int64)) → ∃ fu46 : Nat, lpX5_solve_46 o0 M13 (fun x18 J19 => ∀ J20 : zL, J20 = va_up J19 o0 (vp_updL (J19 o0) 1 (1 : Int64)) → ∃ fu83 : Nat, lpX5_solve_83 o0 o1 M13 (fun x23 J24 => wX5_commonDivisor M13 (J24 o0 1) (J24 o0 0) (fun y25 => (((lg_cmp y25 (1 : Int64)) ≤ 0) → ( Q M13 J24)) ∧ ((¬ (lg_cmp y25 (1 : Int64)) ≤ 0) → ( ¬ y25 = 0 ∧ ∀ J26 : zL, J26 = va_up J24 o0 (vp_updL (J24 o0) 0 ((J24 o0 0) / y25)) → ¬ y25 = 0 ∧ ∀ J27 : zL, J27 = va_up J26 o0 (vp_updL (J26 o0) 1 ((J26 o0 1) / y25)) → Q M13 J27)))) fu83 (0 : Int32) J20) fu46 (0 : Int32) J15) fu13 x9 M10 J11 → zH D Y ad kd RL M10 J11 A s.heap H locs s → lv_has ls 6 [(0, .ref (ad o0)), (1, .ref (ad o1)), (2, .int x2), (4, .int x9)] → W p l e rmX5_solve s m ar below meth c H locs 0 0 QE (F0 m 13 ls []) := by
    intro fu13
    induction fu13 with
    | zero => intro x9 M10 J11 H locs ls hq; exact hq.elim
    | succ fu13 ih13 =>
      intro x9 M10 J11 H locs ls hq hw hl
      unfold lpX5_solve_13 at hq
      refine lv_iload hx hb dX5_solve_13 (lv_at hl 3 rfl) ?_
      refine lv_aload_n hx hb dX5_solve_15 rfl (lv_at hl 1 rfl) ?_
      refine zg2_pegs hx hb g2 hown hw h_o1 q2 dX5_solve_16 ?_
      refine lv_iconst (v := (1 : Int32)) hx hb dX5_solve_19 (by decide) ?_
      refine lv_isub hx hb dX5_solve_20 ?_
      refine lv_icmp_ge (tgt := 38) hx hb dX5_solve_21 (by decide) (fun hc => ?_) (fun hc => ?_)
      · have hq := hq.1 hc
        exact ex13_38 x9 M10 J11 _ _ _ hq hw (lv_sub hl [0, 1] rfl)
      · have hq := hq.2 hc
        refine lv_aload_n hx hb dX5_solve_24 rfl (lv_at hl 0 rfl) ?_
        refine lv_aload_n hx hb dX5_solve_25 rfl (lv_at hl 1 rfl) ?_
        refine lv_iload hx hb dX5_solve_26 (lv_at hl 3 rfl) ?_
        refine lv_iload_n hx hb dX5_solve_28 rfl (lv_at hl 2 rfl) ?_
        refine z_cvv ⟨hx, hb, hml, hown, hts⟩ hw h_o0 (kX5_goOn h_o0 h_o1 hq) (by decide) rfl (cwV 3 hts gX5_solve_X5_goOn rfl rfl rfl (by decide +kernel) ⟨Nat.le_of_ble_eq_true rfl, Nat.le_of_ble_eq_true rfl⟩) rfl hl.1 rfl (Nat.le_of_ble_eq_true rfl) dX5_solve_29 ⟨Nat.zero_le _, Nat.zero_le _⟩ (fun M36 J37 H locs hq hw => ?_)
        obtain ⟨x38, e_x38⟩ : ∃ y : Int32, y = x9 + (1 : Int32) := ⟨_, rfl⟩
        have hq := hq x38 e_x38
        refine lv_iinc (v := x38) (lv' := [(4, .int x38), (0, .ref (ad o0)), (1, .ref (ad o1)), (2, .int x2)]) hx hb dX5_solve_32 hl (k := 3) rfl (by rw [e_x38]; rfl) (by decide) rfl (fun ls hl => ?_)
        refine lv_goto (tgt := 13) hx hb dX5_solve_35 (by decide) ?_
        exact ih13 x38 M36 J37 _ _ _ hq hw (lv_sub hl [1, 2, 3, 0] rfl)
  exact lp13 fu13 (0 : Int32) M7 J8 _ _ _ hq hw (lv_sub hl [1, 2, 3, 0] rfl)
