theorem dX2_slewAt_0 : decode cX2_slewAt 0 = .ok (.iload_n 1, 1) := by decide +kernel
theorem dX2_slewAt_1 : decode cX2_slewAt 1 = .ok (.ifCond .lt 11, 3) := by decide +kernel
theorem dX2_slewAt_4 : decode cX2_slewAt 4 = .ok (.iload_n 1, 1) := by decide +kernel
theorem dX2_slewAt_5 : decode cX2_slewAt 5 = .ok (.aload_n 0, 1) := by decide +kernel
theorem dX2_slewAt_6 : decode cX2_slewAt 6 = .ok (.getfield 9, 3) := by decide +kernel
theorem dX2_slewAt_9 : decode cX2_slewAt 9 = .ok (.if_icmp .lt 7, 3) := by decide +kernel
theorem dX2_slewAt_12 : decode cX2_slewAt 12 = .ok (.iconst 0, 1) := by decide +kernel
theorem dX2_slewAt_13 : decode cX2_slewAt 13 = .ok (.goto 9, 3) := by decide +kernel
theorem dX2_slewAt_16 : decode cX2_slewAt 16 = .ok (.aload_n 0, 1) := by decide +kernel
theorem dX2_slewAt_17 : decode cX2_slewAt 17 = .ok (.getfield 28, 3) := by decide +kernel
theorem dX2_slewAt_20 : decode cX2_slewAt 20 = .ok (.iload_n 1, 1) := by decide +kernel
theorem dX2_slewAt_21 : decode cX2_slewAt 21 = .ok (.iaload, 1) := by decide +kernel
theorem dX2_slewAt_22 : decode cX2_slewAt 22 = .ok (.ireturn, 1) := by decide +kernel
def rmX2_slewAt : Room := { frames := 0, cells := 0, slots := 0, locals := 0 }
def wX2_slewAt (M : zM) (o0 : Nat) (x1 : Int32) (Q : Int32 → Prop) : Prop :=
    ((x1 < 0) → (
    Q (0 : Int32))) ∧
    ((¬ x1 < 0) → (
    ((x1 < (M o0 0)) → (
    vp_in x1 12 ∧
    Q (M (o0 + 4) x1.toNatClampNeg))) ∧
    ((¬ x1 < (M o0 0)) → (
    Q (0 : Int32)))))
set_option maxHeartbeats 4000000 in
set_option maxRecDepth 100000 in
theorem kX2_slewAt {l : Launch} {D : va_G} {Y : zY} {ad kd : Nat → Nat} {RL : List Nat} {M : zM} {J : zL} {o0 : Nat} {x1 : Int32} (h_o0 : kd o0 = 2) {Q : Int32 → Prop} (hq : wX2_slewAt M o0 x1 Q) : zCi l yX2_slewAt wsX2_slewAt rmX2_slewAt [.ref (ad o0), .int x1] D Y ad kd RL M J (fun r M' J' => Q r ∧ M = M' ∧ J = J') := by
  refine z_meti (cc := cX2_slewAt) (maxL := 2) (ret := (some .int)) (by decide) rfl (Nat.le_of_ble_eq_true rfl) ?_
  intro p e s m below meth c ls A ar QE hQE hx hb hr hml hown hts hlk hw hl
  have hown : s.vm.findClass RX2 = some m.cls := hown
  have hl : lv_has ls 2 [(0, .ref (ad o0)), (1, .int x1)] := hl
  have hC := hw.2.2.2.2.2.1
  have g2 : ∀ w ∈ wsX20, w.before ar s = true := (fun w h => hts w (List.mem_cons_of_mem _ (List.mem_append_right _ h)))
  have q1 := hts _ (List.mem_of_getElem? (i := 1) rfl)
  have q2 := hts _ (List.mem_of_getElem? (i := 2) rfl)
  unfold wX2_slewAt at hq
  refine lv_iload_n hx hb dX2_slewAt_0 rfl (lv_at hl 1 rfl) ?_
  refine lv_if_lt (tgt := 12) hx hb dX2_slewAt_1 (by decide) (fun hc => ?_) (fun hc => ?_)
  · have hq := hq.1 hc
    refine lv_iconst (v := (0 : Int32)) hx hb dX2_slewAt_12 (by decide) ?_
    refine lv_goto (tgt := 22) hx hb dX2_slewAt_13 (by decide) ?_
    exact z_iret hQE hx hb hr hlk hw dX2_slewAt_22 ⟨hq, rfl, rfl⟩
  · have hq := hq.2 hc
    refine lv_iload_n hx hb dX2_slewAt_4 rfl (lv_at hl 1 rfl) ?_
    refine lv_aload_n hx hb dX2_slewAt_5 rfl (lv_at hl 0 rfl) ?_
    refine zg2_pegs hx hb g2 hown hw h_o0 q1 dX2_slewAt_6 ?_
    refine lv_icmp_lt (tgt := 16) hx hb dX2_slewAt_9 (by decide) (fun hc => ?_) (fun hc => ?_)
    · have hq := hq.1 hc
      refine lv_aload_n hx hb dX2_slewAt_16 rfl (lv_at hl 0 rfl) ?_
      refine zg2_slews hx hb g2 hown hw h_o0 q2 dX2_slewAt_17 ?_
      refine lv_iload_n hx hb dX2_slewAt_20 rfl (lv_at hl 1 rfl) ?_
      obtain ⟨hi, hq⟩ := hq
      refine z_iald (n := 12) hx hb hw (zk_2_4 hC h_o0) hi dX2_slewAt_21 ?_
      exact z_iret hQE hx hb hr hlk hw dX2_slewAt_22 ⟨hq, rfl, rfl⟩
    · have hq := hq.2 hc
      refine lv_iconst (v := (0 : Int32)) hx hb dX2_slewAt_12 (by decide) ?_
      refine lv_goto (tgt := 22) hx hb dX2_slewAt_13 (by decide) ?_
      exact z_iret hQE hx hb hr hlk hw dX2_slewAt_22 ⟨hq, rfl, rfl⟩
set_option maxRecDepth 20000 in
theorem ggX2_now_X2_slewAt : GoodIn wsX2_now wsX2_slewAt := goodIn_r _ [7, 8, 2, 9, 10, 11, 12, 13, 14] (by decide +kernel) (by decide +kernel)
set_option maxRecDepth 20000 in
theorem gX2_now_X2_slewAt : GoodIn wsX2_now (wsV RX2 43 RX2 yX2_slewAt wsX2_slewAt) := goodIn_app (goodIn_of _ (by decide +kernel)) ggX2_now_X2_slewAt
theorem dX2_now_0 : decode cX2_now 0 = .ok (.aload_n 0, 1) := by decide +kernel
theorem dX2_now_1 : decode cX2_now 1 = .ok (.getfield 22, 3) := by decide +kernel
theorem dX2_now_4 : decode cX2_now 4 = .ok (.iload_n 1, 1) := by decide +kernel
theorem dX2_now_5 : decode cX2_now 5 = .ok (.iaload, 1) := by decide +kernel
theorem dX2_now_6 : decode cX2_now 6 = .ok (.iconst 2, 1) := by decide +kernel
theorem dX2_now_7 : decode cX2_now 7 = .ok (.aload_n 0, 1) := by decide +kernel
theorem dX2_now_8 : decode cX2_now 8 = .ok (.getfield 28, 3) := by decide +kernel
theorem dX2_now_11 : decode cX2_now 11 = .ok (.iload_n 1, 1) := by decide +kernel
theorem dX2_now_12 : decode cX2_now 12 = .ok (.iaload, 1) := by decide +kernel
theorem dX2_now_13 : decode cX2_now 13 = .ok (.imul, 1) := by decide +kernel
theorem dX2_now_14 : decode cX2_now 14 = .ok (.iadd, 1) := by decide +kernel
theorem dX2_now_15 : decode cX2_now 15 = .ok (.aload_n 0, 1) := by decide +kernel
theorem dX2_now_16 : decode cX2_now 16 = .ok (.iload_n 1, 1) := by decide +kernel
theorem dX2_now_17 : decode cX2_now 17 = .ok (.iconst 1, 1) := by decide +kernel
theorem dX2_now_18 : decode cX2_now 18 = .ok (.isub, 1) := by decide +kernel
theorem dX2_now_19 : decode cX2_now 19 = .ok (.invokevirtual 43, 3) := by decide +kernel
theorem dX2_now_22 : decode cX2_now 22 = .ok (.isub, 1) := by decide +kernel
theorem dX2_now_23 : decode cX2_now 23 = .ok (.aload_n 0, 1) := by decide +kernel
theorem dX2_now_24 : decode cX2_now 24 = .ok (.iload_n 1, 1) := by decide +kernel
theorem dX2_now_25 : decode cX2_now 25 = .ok (.iconst 1, 1) := by decide +kernel
theorem dX2_now_26 : decode cX2_now 26 = .ok (.iadd, 1) := by decide +kernel
theorem dX2_now_27 : decode cX2_now 27 = .ok (.invokevirtual 43, 3) := by decide +kernel
theorem dX2_now_30 : decode cX2_now 30 = .ok (.isub, 1) := by decide +kernel
theorem dX2_now_31 : decode cX2_now 31 = .ok (.ireturn, 1) := by decide +kernel
def rmX2_now : Room := { frames := 1, cells := 0, slots := 0, locals := 21 }
def wX2_now (M : zM) (o0 : Nat) (x1 : Int32) (Q : Int32 → Prop) : Prop :=
    vp_in x1 12 ∧
    vp_in x1 12 ∧
    ∀ x4 : Int32, x4 = ((M (o0 + 2) x1.toNatClampNeg) + ((2 : Int32) * (M (o0 + 4) x1.toNatClampNeg))) →
    wX2_slewAt M o0 (x1 - (1 : Int32)) (fun r5 =>
    wX2_slewAt M o0 (x1 + (1 : Int32)) (fun r6 =>
    Q ((x4 - r5) - r6)))
set_option maxHeartbeats 4000000 in
set_option maxRecDepth 100000 in
theorem kX2_now {l : Launch} {D : va_G} {Y : zY} {ad kd : Nat → Nat} {RL : List Nat} {M : zM} {J : zL} {o0 : Nat} {x1 : Int32} (h_o0 : kd o0 = 2) {Q : Int32 → Prop} (hq : wX2_now M o0 x1 Q) : zCi l yX2_now wsX2_now rmX2_now [.ref (ad o0), .int x1] D Y ad kd RL M J (fun r M' J' => Q r ∧ M = M' ∧ J = J') := by
  refine z_meti (cc := cX2_now) (maxL := 2) (ret := (some .int)) (by decide) rfl (Nat.le_of_ble_eq_true rfl) ?_
  intro p e s m below meth c ls A ar QE hQE hx hb hr hml hown hts hlk hw hl
  have hown : s.vm.findClass RX2 = some m.cls := hown
  have hl : lv_has ls 2 [(0, .ref (ad o0)), (1, .int x1)] := hl
  have hC := hw.2.2.2.2.2.1
  have g2 : ∀ w ∈ wsX20, w.before ar s = true := (fun w h => hts w (List.mem_cons_of_mem _ (List.mem_append_right _ h)))
  have q1 := hts _ (List.mem_of_getElem? (i := 1) rfl)
  have q2 := hts _ (List.mem_of_getElem? (i := 2) rfl)
  unfold wX2_now at hq
  refine lv_aload_n hx hb dX2_now_0 rfl (lv_at hl 0 rfl) ?_
  refine zg2_versines hx hb g2 hown hw h_o0 q1 dX2_now_1 ?_
  refine lv_iload_n hx hb dX2_now_4 rfl (lv_at hl 1 rfl) ?_
  obtain ⟨hi, hq⟩ := hq
  refine z_iald (n := 12) hx hb hw (zk_2_2 hC h_o0) hi dX2_now_5 ?_
  refine lv_iconst (v := (2 : Int32)) hx hb dX2_now_6 (by decide) ?_
  refine lv_aload_n hx hb dX2_now_7 rfl (lv_at hl 0 rfl) ?_
  refine zg2_slews hx hb g2 hown hw h_o0 q2 dX2_now_8 ?_
  refine lv_iload_n hx hb dX2_now_11 rfl (lv_at hl 1 rfl) ?_
  obtain ⟨hi, hq⟩ := hq
  refine z_iald (n := 12) hx hb hw (zk_2_4 hC h_o0) hi dX2_now_12 ?_
  refine lv_imul hx hb dX2_now_13 ?_
  refine lv_iadd hx hb dX2_now_14 ?_
  refine lv_topi (fun x4 e_x4 => ?_)
  have hq := hq x4 e_x4
  refine lv_aload_n hx hb dX2_now_15 rfl (lv_at hl 0 rfl) ?_
  refine lv_iload_n hx hb dX2_now_16 rfl (lv_at hl 1 rfl) ?_
  refine lv_iconst (v := (1 : Int32)) hx hb dX2_now_17 (by decide) ?_
  refine lv_isub hx hb dX2_now_18 ?_
  refine z_cvi ⟨hx, hb, hml, hown, hts⟩ hw h_o0 (kX2_slewAt h_o0 hq) (by decide) rfl (cwV 1 hts gX2_now_X2_slewAt rfl rfl rfl (by decide +kernel) ⟨Nat.le_of_ble_eq_true rfl, Nat.le_of_ble_eq_true rfl⟩) rfl hl.1 rfl (Nat.le_of_ble_eq_true rfl) dX2_now_19 ⟨Nat.zero_le _, Nat.zero_le _⟩ (fun r5 M0 J0 H locs hq hw => ?_)
  obtain ⟨hq, rfl, rfl⟩ := hq
  refine lv_isub hx hb dX2_now_22 ?_
  refine lv_aload_n hx hb dX2_now_23 rfl (lv_at hl 0 rfl) ?_
  refine lv_iload_n hx hb dX2_now_24 rfl (lv_at hl 1 rfl) ?_
  refine lv_iconst (v := (1 : Int32)) hx hb dX2_now_25 (by decide) ?_
  refine lv_iadd hx hb dX2_now_26 ?_
  refine z_cvi ⟨hx, hb, hml, hown, hts⟩ hw h_o0 (kX2_slewAt h_o0 hq) (by decide) rfl (cwV 1 hts gX2_now_X2_slewAt rfl rfl rfl (by decide +kernel) ⟨Nat.le_of_ble_eq_true rfl, Nat.le_of_ble_eq_true rfl⟩) rfl hl.1 rfl (Nat.le_of_ble_eq_true rfl) dX2_now_27 ⟨Nat.zero_le _, Nat.zero_le _⟩ (fun r6 M0 J0 H locs hq hw => ?_)
  obtain ⟨hq, rfl, rfl⟩ := hq
  refine lv_isub hx hb dX2_now_30 ?_
  exact z_iret hQE hx hb hr hlk hw dX2_now_31 ⟨hq, rfl, rfl⟩
theorem dX2_become_0 : decode cX2_become 0 = .ok (.aload_n 0, 1) := by decide +kernel
theorem dX2_become_1 : decode cX2_become 1 = .ok (.aload_n 1, 1) := by decide +kernel
theorem dX2_become_2 : decode cX2_become 2 = .ok (.getfield 9, 3) := by decide +kernel
theorem dX2_become_5 : decode cX2_become 5 = .ok (.putfield 9, 3) := by decide +kernel
theorem dX2_become_8 : decode cX2_become 8 = .ok (.aload_n 0, 1) := by decide +kernel
theorem dX2_become_9 : decode cX2_become 9 = .ok (.aload_n 1, 1) := by decide +kernel
theorem dX2_become_10 : decode cX2_become 10 = .ok (.getfield 15, 3) := by decide +kernel
theorem dX2_become_13 : decode cX2_become 13 = .ok (.putfield 15, 3) := by decide +kernel
theorem dX2_become_16 : decode cX2_become 16 = .ok (.aload_n 1, 1) := by decide +kernel
theorem dX2_become_17 : decode cX2_become 17 = .ok (.getfield 18, 3) := by decide +kernel
theorem dX2_become_20 : decode cX2_become 20 = .ok (.iconst 0, 1) := by decide +kernel
theorem dX2_become_21 : decode cX2_become 21 = .ok (.aload_n 0, 1) := by decide +kernel
theorem dX2_become_22 : decode cX2_become 22 = .ok (.getfield 18, 3) := by decide +kernel
theorem dX2_become_25 : decode cX2_become 25 = .ok (.iconst 0, 1) := by decide +kernel
theorem dX2_become_26 : decode cX2_become 26 = .ok (.aload_n 0, 1) := by decide +kernel
theorem dX2_become_27 : decode cX2_become 27 = .ok (.getfield 9, 3) := by decide +kernel
theorem dX2_become_30 : decode cX2_become 30 = .ok (.invokestatic 31, 3) := by decide +kernel
theorem dX2_become_33 : decode cX2_become 33 = .ok (.aload_n 1, 1) := by decide +kernel
theorem dX2_become_34 : decode cX2_become 34 = .ok (.getfield 22, 3) := by decide +kernel
theorem dX2_become_37 : decode cX2_become 37 = .ok (.iconst 0, 1) := by decide +kernel
theorem dX2_become_38 : decode cX2_become 38 = .ok (.aload_n 0, 1) := by decide +kernel
theorem dX2_become_39 : decode cX2_become 39 = .ok (.getfield 22, 3) := by decide +kernel
theorem dX2_become_42 : decode cX2_become 42 = .ok (.iconst 0, 1) := by decide +kernel
theorem dX2_become_43 : decode cX2_become 43 = .ok (.aload_n 0, 1) := by decide +kernel
theorem dX2_become_44 : decode cX2_become 44 = .ok (.getfield 9, 3) := by decide +kernel
theorem dX2_become_47 : decode cX2_become 47 = .ok (.invokestatic 31, 3) := by decide +kernel
theorem dX2_become_50 : decode cX2_become 50 = .ok (.aload_n 1, 1) := by decide +kernel
theorem dX2_become_51 : decode cX2_become 51 = .ok (.getfield 25, 3) := by decide +kernel
theorem dX2_become_54 : decode cX2_become 54 = .ok (.iconst 0, 1) := by decide +kernel
theorem dX2_become_55 : decode cX2_become 55 = .ok (.aload_n 0, 1) := by decide +kernel
theorem dX2_become_56 : decode cX2_become 56 = .ok (.getfield 25, 3) := by decide +kernel
theorem dX2_become_59 : decode cX2_become 59 = .ok (.iconst 0, 1) := by decide +kernel
theorem dX2_become_60 : decode cX2_become 60 = .ok (.aload_n 0, 1) := by decide +kernel
theorem dX2_become_61 : decode cX2_become 61 = .ok (.getfield 9, 3) := by decide +kernel
theorem dX2_become_64 : decode cX2_become 64 = .ok (.invokestatic 31, 3) := by decide +kernel
theorem dX2_become_67 : decode cX2_become 67 = .ok (.aload_n 1, 1) := by decide +kernel
theorem dX2_become_68 : decode cX2_become 68 = .ok (.getfield 28, 3) := by decide +kernel
theorem dX2_become_71 : decode cX2_become 71 = .ok (.iconst 0, 1) := by decide +kernel
theorem dX2_become_72 : decode cX2_become 72 = .ok (.aload_n 0, 1) := by decide +kernel
theorem dX2_become_73 : decode cX2_become 73 = .ok (.getfield 28, 3) := by decide +kernel
theorem dX2_become_76 : decode cX2_become 76 = .ok (.iconst 0, 1) := by decide +kernel
theorem dX2_become_77 : decode cX2_become 77 = .ok (.aload_n 0, 1) := by decide +kernel
theorem dX2_become_78 : decode cX2_become 78 = .ok (.getfield 9, 3) := by decide +kernel
theorem dX2_become_81 : decode cX2_become 81 = .ok (.invokestatic 31, 3) := by decide +kernel
theorem dX2_become_84 : decode cX2_become 84 = .ok (.return_, 1) := by decide +kernel
def rmX2_become : Room := { frames := 1, cells := 0, slots := 0, locals := 64 }
def wX2_become (M : zM) (o0 : Nat) (o1 : Nat) (Q : zM → Prop) : Prop :=
    ∀ M4 : zM, M4 = va_up M o0 (upd (M o0) 0 (M o1 0)) →
    ∀ M5 : zM, M5 = va_up M4 o0 (upd (M4 o0) 1 (M4 o1 1)) →
    (¬ (0 : Int32) < 0 ∧ ¬ (0 : Int32) < 0 ∧ ¬ (M5 o0 0) < 0 ∧ (0 : Int32).toNatClampNeg + (M5 o0 0).toNatClampNeg ≤ 12 ∧ (0 : Int32).toNatClampNeg + (M5 o0 0).toNatClampNeg ≤ 12) ∧
    ∀ M6 : zM, M6 = va_up M5 (o0 + 1) (va_cpy (M5 (o1 + 1)) (M5 (o0 + 1)) (0 : Int32).toNatClampNeg (0 : Int32).toNatClampNeg (M5 o0 0).toNatClampNeg) →
    (¬ (0 : Int32) < 0 ∧ ¬ (0 : Int32) < 0 ∧ ¬ (M6 o0 0) < 0 ∧ (0 : Int32).toNatClampNeg + (M6 o0 0).toNatClampNeg ≤ 12 ∧ (0 : Int32).toNatClampNeg + (M6 o0 0).toNatClampNeg ≤ 12) ∧
    ∀ M7 : zM, M7 = va_up M6 (o0 + 2) (va_cpy (M6 (o1 + 2)) (M6 (o0 + 2)) (0 : Int32).toNatClampNeg (0 : Int32).toNatClampNeg (M6 o0 0).toNatClampNeg) →
    (¬ (0 : Int32) < 0 ∧ ¬ (0 : Int32) < 0 ∧ ¬ (M7 o0 0) < 0 ∧ (0 : Int32).toNatClampNeg + (M7 o0 0).toNatClampNeg ≤ 12 ∧ (0 : Int32).toNatClampNeg + (M7 o0 0).toNatClampNeg ≤ 12) ∧
    ∀ M8 : zM, M8 = va_up M7 (o0 + 3) (va_cpy (M7 (o1 + 3)) (M7 (o0 + 3)) (0 : Int32).toNatClampNeg (0 : Int32).toNatClampNeg (M7 o0 0).toNatClampNeg) →
    (¬ (0 : Int32) < 0 ∧ ¬ (0 : Int32) < 0 ∧ ¬ (M8 o0 0) < 0 ∧ (0 : Int32).toNatClampNeg + (M8 o0 0).toNatClampNeg ≤ 12 ∧ (0 : Int32).toNatClampNeg + (M8 o0 0).toNatClampNeg ≤ 12) ∧
    ∀ M9 : zM, M9 = va_up M8 (o0 + 4) (va_cpy (M8 (o1 + 4)) (M8 (o0 + 4)) (0 : Int32).toNatClampNeg (0 : Int32).toNatClampNeg (M8 o0 0).toNatClampNeg) →
    Q M9
set_option maxHeartbeats 4000000 in
set_option maxRecDepth 100000 in
theorem kX2_become {l : Launch} {D : va_G} {Y : zY} {ad kd : Nat → Nat} {RL : List Nat} {M : zM} {J : zL} {o0 : Nat} {o1 : Nat} (h_o0 : kd o0 = 2) (h_o1 : kd o1 = 2) {Q : zM → Prop} (hq : wX2_become M o0 o1 Q) : zCv l yX2_become wsX2_become rmX2_become [.ref (ad o0), .ref (ad o1)] D Y ad kd RL M J (fun M' J' => Q M' ∧ J = J') := by
  refine z_metv (cc := cX2_become) (maxL := 2) (ret := none) (by decide) rfl (Nat.le_of_ble_eq_true rfl) ?_
  intro p e s m below meth c ls A ar QE hQE hx hb hr hml hown hts hlk hw hl
  have hown : s.vm.findClass RX2 = some m.cls := hown
  have hl : lv_has ls 2 [(0, .ref (ad o0)), (1, .ref (ad o1))] := hl
  have hC := hw.2.2.2.2.2.1
  have g2 : ∀ w ∈ wsX20, w.before ar s = true := (fun w h => hts w (List.mem_cons_of_mem _ (List.mem_append_right _ h)))
  have q1 := hts _ (List.mem_of_getElem? (i := 1) rfl)
  have q2 := hts _ (List.mem_of_getElem? (i := 2) rfl)
  have q3 := hts _ (List.mem_of_getElem? (i := 3) rfl)
  have q4 := hts _ (List.mem_of_getElem? (i := 4) rfl)
  have q5 := hts _ (List.mem_of_getElem? (i := 5) rfl)
  have q6 := hts _ (List.mem_of_getElem? (i := 6) rfl)
  have q7 := hts _ (List.mem_of_getElem? (i := 7) rfl)
  have q8 := hts _ (List.mem_of_getElem? (i := 8) rfl)
  have q9 := hts _ (List.mem_of_getElem? (i := 9) rfl)
  have q10 := hts _ (List.mem_of_getElem? (i := 10) rfl)
  unfold wX2_become at hq
  refine lv_aload_n hx hb dX2_become_0 rfl (lv_at hl 0 rfl) ?_
  refine lv_aload_n hx hb dX2_become_1 rfl (lv_at hl 1 rfl) ?_
  refine zg2_pegs hx hb g2 hown hw h_o1 q1 dX2_become_2 ?_
  refine zp2_pegs hx hb g2 hown hw h_o0 q1 dX2_become_5 (fun H locs hw => ?_)
  obtain ⟨M4, e_M4⟩ : ∃ y : zM, y = va_up M o0 (upd (M o0) 0 (M o1 0)) := ⟨_, rfl⟩
  rw [← e_M4] at hw
  have hq := hq M4 e_M4
  refine lv_aload_n hx hb dX2_become_8 rfl (lv_at hl 0 rfl) ?_
  refine lv_aload_n hx hb dX2_become_9 rfl (lv_at hl 1 rfl) ?_
  refine zg2_worked hx hb g2 hown hw h_o1 q2 dX2_become_10 ?_
  refine zp2_worked hx hb g2 hown hw h_o0 q2 dX2_become_13 (fun H locs hw => ?_)
  obtain ⟨M5, e_M5⟩ : ∃ y : zM, y = va_up M4 o0 (upd (M4 o0) 1 (M4 o1 1)) := ⟨_, rfl⟩
  rw [← e_M5] at hw
  have hq := hq M5 e_M5
  refine lv_aload_n hx hb dX2_become_16 rfl (lv_at hl 1 rfl) ?_
  refine zg2_kinds hx hb g2 hown hw h_o1 q3 dX2_become_17 ?_
  refine lv_iconst (v := (0 : Int32)) hx hb dX2_become_20 (by decide) ?_
  refine lv_aload_n hx hb dX2_become_21 rfl (lv_at hl 0 rfl) ?_
  refine zg2_kinds hx hb g2 hown hw h_o0 q3 dX2_become_22 ?_
  refine lv_iconst (v := (0 : Int32)) hx hb dX2_become_25 (by decide) ?_
  refine lv_aload_n hx hb dX2_become_26 rfl (lv_at hl 0 rfl) ?_
  refine zg2_pegs hx hb g2 hown hw h_o0 q1 dX2_become_27 ?_
  obtain ⟨hi, hq⟩ := hq
  refine z_copy (n0 := 12) (n1 := 12) hx hb (hml.trans hl.1.symm) hown q4 q5 q6 q7 hw (zk_2_1 hC h_o1) (zk_2_1 hC h_o0) hi (Nat.le_of_ble_eq_true rfl) (Nat.le_of_ble_eq_true rfl) dX2_become_30 (fun H locs hw => ?_)
  obtain ⟨M6, e_M6⟩ : ∃ y : zM, y = va_up M5 (o0 + 1) (va_cpy (M5 (o1 + 1)) (M5 (o0 + 1)) (0 : Int32).toNatClampNeg (0 : Int32).toNatClampNeg (M5 o0 0).toNatClampNeg) := ⟨_, rfl⟩
  rw [← e_M6] at hw
  have hq := hq M6 e_M6
  refine lv_aload_n hx hb dX2_become_33 rfl (lv_at hl 1 rfl) ?_
  refine zg2_versines hx hb g2 hown hw h_o1 q8 dX2_become_34 ?_
  refine lv_iconst (v := (0 : Int32)) hx hb dX2_become_37 (by decide) ?_
  refine lv_aload_n hx hb dX2_become_38 rfl (lv_at hl 0 rfl) ?_
  refine zg2_versines hx hb g2 hown hw h_o0 q8 dX2_become_39 ?_
  refine lv_iconst (v := (0 : Int32)) hx hb dX2_become_42 (by decide) ?_
  refine lv_aload_n hx hb dX2_become_43 rfl (lv_at hl 0 rfl) ?_
  refine zg2_pegs hx hb g2 hown hw h_o0 q1 dX2_become_44 ?_
  obtain ⟨hi, hq⟩ := hq
  refine z_copy (n0 := 12) (n1 := 12) hx hb (hml.trans hl.1.symm) hown q4 q5 q6 q7 hw (zk_2_2 hC h_o1) (zk_2_2 hC h_o0) hi (Nat.le_of_ble_eq_true rfl) (Nat.le_of_ble_eq_true rfl) dX2_become_47 (fun H locs hw => ?_)
  obtain ⟨M7, e_M7⟩ : ∃ y : zM, y = va_up M6 (o0 + 2) (va_cpy (M6 (o1 + 2)) (M6 (o0 + 2)) (0 : Int32).toNatClampNeg (0 : Int32).toNatClampNeg (M6 o0 0).toNatClampNeg) := ⟨_, rfl⟩
  rw [← e_M7] at hw
  have hq := hq M7 e_M7
  refine lv_aload_n hx hb dX2_become_50 rfl (lv_at hl 1 rfl) ?_
  refine zg2_bounds hx hb g2 hown hw h_o1 q9 dX2_become_51 ?_
  refine lv_iconst (v := (0 : Int32)) hx hb dX2_become_54 (by decide) ?_
  refine lv_aload_n hx hb dX2_become_55 rfl (lv_at hl 0 rfl) ?_
  refine zg2_bounds hx hb g2 hown hw h_o0 q9 dX2_become_56 ?_
  refine lv_iconst (v := (0 : Int32)) hx hb dX2_become_59 (by decide) ?_
  refine lv_aload_n hx hb dX2_become_60 rfl (lv_at hl 0 rfl) ?_
  refine zg2_pegs hx hb g2 hown hw h_o0 q1 dX2_become_61 ?_
  obtain ⟨hi, hq⟩ := hq
  refine z_copy (n0 := 12) (n1 := 12) hx hb (hml.trans hl.1.symm) hown q4 q5 q6 q7 hw (zk_2_3 hC h_o1) (zk_2_3 hC h_o0) hi (Nat.le_of_ble_eq_true rfl) (Nat.le_of_ble_eq_true rfl) dX2_become_64 (fun H locs hw => ?_)
  obtain ⟨M8, e_M8⟩ : ∃ y : zM, y = va_up M7 (o0 + 3) (va_cpy (M7 (o1 + 3)) (M7 (o0 + 3)) (0 : Int32).toNatClampNeg (0 : Int32).toNatClampNeg (M7 o0 0).toNatClampNeg) := ⟨_, rfl⟩
  rw [← e_M8] at hw
  have hq := hq M8 e_M8
  refine lv_aload_n hx hb dX2_become_67 rfl (lv_at hl 1 rfl) ?_
  refine zg2_slews hx hb g2 hown hw h_o1 q10 dX2_become_68 ?_
  refine lv_iconst (v := (0 : Int32)) hx hb dX2_become_71 (by decide) ?_
  refine lv_aload_n hx hb dX2_become_72 rfl (lv_at hl 0 rfl) ?_
  refine zg2_slews hx hb g2 hown hw h_o0 q10 dX2_become_73 ?_
  refine lv_iconst (v := (0 : Int32)) hx hb dX2_become_76 (by decide) ?_
  refine lv_aload_n hx hb dX2_become_77 rfl (lv_at hl 0 rfl) ?_
  refine zg2_pegs hx hb g2 hown hw h_o0 q1 dX2_become_78 ?_
  obtain ⟨hi, hq⟩ := hq
  refine z_copy (n0 := 12) (n1 := 12) hx hb (hml.trans hl.1.symm) hown q4 q5 q6 q7 hw (zk_2_4 hC h_o1) (zk_2_4 hC h_o0) hi (Nat.le_of_ble_eq_true rfl) (Nat.le_of_ble_eq_true rfl) dX2_become_81 (fun H locs hw => ?_)
  obtain ⟨M9, e_M9⟩ : ∃ y : zM, y = va_up M8 (o0 + 4) (va_cpy (M8 (o1 + 4)) (M8 (o0 + 4)) (0 : Int32).toNatClampNeg (0 : Int32).toNatClampNeg (M8 o0 0).toNatClampNeg) := ⟨_, rfl⟩
  rw [← e_M9] at hw
  have hq := hq M9 e_M9
  exact z_vret hQE hx hb hr hlk hw dX2_become_84 ⟨hq, rfl⟩
theorem dX2_isThere_0 : decode cX2_isThere 0 = .ok (.aload_n 0, 1) := by decide +kernel
theorem dX2_isThere_1 : decode cX2_isThere 1 = .ok (.getfield 9, 3) := by decide +kernel
theorem dX2_isThere_4 : decode cX2_isThere 4 = .ok (.ifCond .le 7, 3) := by decide +kernel
theorem dX2_isThere_7 : decode cX2_isThere 7 = .ok (.iconst 1, 1) := by decide +kernel
theorem dX2_isThere_8 : decode cX2_isThere 8 = .ok (.goto 4, 3) := by decide +kernel
theorem dX2_isThere_11 : decode cX2_isThere 11 = .ok (.iconst 0, 1) := by decide +kernel
theorem dX2_isThere_12 : decode cX2_isThere 12 = .ok (.ireturn, 1) := by decide +kernel
def rmX2_isThere : Room := { frames := 0, cells := 0, slots := 0, locals := 0 }
def wX2_isThere (M : zM) (o0 : Nat) (Q : Int32 → Prop) : Prop :=
    (((M o0 0) ≤ 0) → (
    Q (0 : Int32))) ∧
    ((¬ (M o0 0) ≤ 0) → (
    Q (1 : Int32)))
set_option maxHeartbeats 4000000 in
set_option maxRecDepth 100000 in
theorem kX2_isThere {l : Launch} {D : va_G} {Y : zY} {ad kd : Nat → Nat} {RL : List Nat} {M : zM} {J : zL} {o0 : Nat} (h_o0 : kd o0 = 2) {Q : Int32 → Prop} (hq : wX2_isThere M o0 Q) : zCi l yX2_isThere wsX2_isThere rmX2_isThere [.ref (ad o0)] D Y ad kd RL M J (fun r M' J' => Q r ∧ M = M' ∧ J = J') := by
  refine z_meti (cc := cX2_isThere) (maxL := 1) (ret := (some .boolean)) (by decide) rfl (Nat.le_of_ble_eq_true rfl) ?_
  intro p e s m below meth c ls A ar QE hQE hx hb hr hml hown hts hlk hw hl
  have hown : s.vm.findClass RX2 = some m.cls := hown
  have hl : lv_has ls 1 [(0, .ref (ad o0))] := hl
  have hC := hw.2.2.2.2.2.1
  have g2 : ∀ w ∈ wsX20, w.before ar s = true := (fun w h => hts w (List.mem_cons_of_mem _ (List.mem_append_right _ h)))
  have q1 := hts _ (List.mem_of_getElem? (i := 1) rfl)
  unfold wX2_isThere at hq
  refine lv_aload_n hx hb dX2_isThere_0 rfl (lv_at hl 0 rfl) ?_
  refine zg2_pegs hx hb g2 hown hw h_o0 q1 dX2_isThere_1 ?_
  refine lv_if_le (tgt := 11) hx hb dX2_isThere_4 (by decide) (fun hc => ?_) (fun hc => ?_)
  · have hq := hq.1 hc
    refine lv_iconst (v := (0 : Int32)) hx hb dX2_isThere_11 (by decide) ?_
    exact z_zret hQE hx hb hr hlk hw dX2_isThere_12 (by decide) ⟨hq, rfl, rfl⟩
  · have hq := hq.2 hc
    refine lv_iconst (v := (1 : Int32)) hx hb dX2_isThere_7 (by decide) ?_
    refine lv_goto (tgt := 12) hx hb dX2_isThere_8 (by decide) ?_
    exact z_zret hQE hx hb hr hlk hw dX2_isThere_12 (by decide) ⟨hq, rfl, rfl⟩
theorem dX2_clear_0 : decode cX2_clear 0 = .ok (.aload_n 0, 1) := by decide +kernel
theorem dX2_clear_1 : decode cX2_clear 1 = .ok (.iconst 0, 1) := by decide +kernel
theorem dX2_clear_2 : decode cX2_clear 2 = .ok (.putfield 9, 3) := by decide +kernel
theorem dX2_clear_5 : decode cX2_clear 5 = .ok (.aload_n 0, 1) := by decide +kernel
theorem dX2_clear_6 : decode cX2_clear 6 = .ok (.iconst 0, 1) := by decide +kernel
theorem dX2_clear_7 : decode cX2_clear 7 = .ok (.putfield 15, 3) := by decide +kernel
theorem dX2_clear_10 : decode cX2_clear 10 = .ok (.return_, 1) := by decide +kernel
def rmX2_clear : Room := { frames := 0, cells := 0, slots := 0, locals := 0 }
def wX2_clear (M : zM) (o0 : Nat) (Q : zM → Prop) : Prop :=
    ∀ M3 : zM, M3 = va_up M o0 (upd (M o0) 0 (0 : Int32)) →
    ∀ M4 : zM, M4 = va_up M3 o0 (upd (M3 o0) 1 (0 : Int32)) →
    Q M4
set_option maxHeartbeats 4000000 in
set_option maxRecDepth 100000 in
theorem kX2_clear {l : Launch} {D : va_G} {Y : zY} {ad kd : Nat → Nat} {RL : List Nat} {M : zM} {J : zL} {o0 : Nat} (h_o0 : kd o0 = 2) {Q : zM → Prop} (hq : wX2_clear M o0 Q) : zCv l yX2_clear wsX2_clear rmX2_clear [.ref (ad o0)] D Y ad kd RL M J (fun M' J' => Q M' ∧ J = J') := by
  refine z_metv (cc := cX2_clear) (maxL := 1) (ret := none) (by decide) rfl (Nat.le_of_ble_eq_true rfl) ?_
  intro p e s m below meth c ls A ar QE hQE hx hb hr hml hown hts hlk hw hl
  have hown : s.vm.findClass RX2 = some m.cls := hown
  have hl : lv_has ls 1 [(0, .ref (ad o0))] := hl
  have hC := hw.2.2.2.2.2.1
  have g2 : ∀ w ∈ wsX20, w.before ar s = true := (fun w h => hts w (List.mem_cons_of_mem _ (List.mem_append_right _ h)))
  have q1 := hts _ (List.mem_of_getElem? (i := 1) rfl)
  have q2 := hts _ (List.mem_of_getElem? (i := 2) rfl)
  unfold wX2_clear at hq
  refine lv_aload_n hx hb dX2_clear_0 rfl (lv_at hl 0 rfl) ?_
  refine lv_iconst (v := (0 : Int32)) hx hb dX2_clear_1 (by decide) ?_
  refine zp2_pegs hx hb g2 hown hw h_o0 q1 dX2_clear_2 (fun H locs hw => ?_)
  obtain ⟨M3, e_M3⟩ : ∃ y : zM, y = va_up M o0 (upd (M o0) 0 (0 : Int32)) := ⟨_, rfl⟩
  rw [← e_M3] at hw
  have hq := hq M3 e_M3
  refine lv_aload_n hx hb dX2_clear_5 rfl (lv_at hl 0 rfl) ?_
  refine lv_iconst (v := (0 : Int32)) hx hb dX2_clear_6 (by decide) ?_
  refine zp2_worked hx hb g2 hown hw h_o0 q2 dX2_clear_7 (fun H locs hw => ?_)
  obtain ⟨M4, e_M4⟩ : ∃ y : zM, y = va_up M3 o0 (upd (M3 o0) 1 (0 : Int32)) := ⟨_, rfl⟩
  rw [← e_M4] at hw
  have hq := hq M4 e_M4
  exact z_vret hQE hx hb hr hlk hw dX2_clear_10 ⟨hq, rfl⟩
theorem dX2_add_0 : decode cX2_add 0 = .ok (.aload_n 0, 1) := by decide +kernel
theorem dX2_add_1 : decode cX2_add 1 = .ok (.getfield 9, 3) := by decide +kernel
theorem dX2_add_4 : decode cX2_add 4 = .ok (.bipush 12, 2) := by decide +kernel
theorem dX2_add_6 : decode cX2_add 6 = .ok (.if_icmp .lt 4, 3) := by decide +kernel
theorem dX2_add_9 : decode cX2_add 9 = .ok (.return_, 1) := by decide +kernel
theorem dX2_add_10 : decode cX2_add 10 = .ok (.aload_n 0, 1) := by decide +kernel
theorem dX2_add_11 : decode cX2_add 11 = .ok (.getfield 18, 3) := by decide +kernel
theorem dX2_add_14 : decode cX2_add 14 = .ok (.aload_n 0, 1) := by decide +kernel
theorem dX2_add_15 : decode cX2_add 15 = .ok (.getfield 9, 3) := by decide +kernel
theorem dX2_add_18 : decode cX2_add 18 = .ok (.iload_n 1, 1) := by decide +kernel
theorem dX2_add_19 : decode cX2_add 19 = .ok (.iastore, 1) := by decide +kernel
theorem dX2_add_20 : decode cX2_add 20 = .ok (.aload_n 0, 1) := by decide +kernel
theorem dX2_add_21 : decode cX2_add 21 = .ok (.getfield 22, 3) := by decide +kernel
theorem dX2_add_24 : decode cX2_add 24 = .ok (.aload_n 0, 1) := by decide +kernel
theorem dX2_add_25 : decode cX2_add 25 = .ok (.getfield 9, 3) := by decide +kernel
theorem dX2_add_28 : decode cX2_add 28 = .ok (.iload_n 2, 1) := by decide +kernel
theorem dX2_add_29 : decode cX2_add 29 = .ok (.iastore, 1) := by decide +kernel
theorem dX2_add_30 : decode cX2_add 30 = .ok (.aload_n 0, 1) := by decide +kernel
theorem dX2_add_31 : decode cX2_add 31 = .ok (.getfield 25, 3) := by decide +kernel
theorem dX2_add_34 : decode cX2_add 34 = .ok (.aload_n 0, 1) := by decide +kernel
theorem dX2_add_35 : decode cX2_add 35 = .ok (.getfield 9, 3) := by decide +kernel
theorem dX2_add_38 : decode cX2_add 38 = .ok (.iload_n 3, 1) := by decide +kernel
theorem dX2_add_39 : decode cX2_add 39 = .ok (.iastore, 1) := by decide +kernel
theorem dX2_add_40 : decode cX2_add 40 = .ok (.aload_n 0, 1) := by decide +kernel
theorem dX2_add_41 : decode cX2_add 41 = .ok (.getfield 28, 3) := by decide +kernel
theorem dX2_add_44 : decode cX2_add 44 = .ok (.aload_n 0, 1) := by decide +kernel
theorem dX2_add_45 : decode cX2_add 45 = .ok (.getfield 9, 3) := by decide +kernel
theorem dX2_add_48 : decode cX2_add 48 = .ok (.iconst 0, 1) := by decide +kernel
theorem dX2_add_49 : decode cX2_add 49 = .ok (.iastore, 1) := by decide +kernel
theorem dX2_add_50 : decode cX2_add 50 = .ok (.aload_n 0, 1) := by decide +kernel
theorem dX2_add_51 : decode cX2_add 51 = .ok (.dup, 1) := by decide +kernel
theorem dX2_add_52 : decode cX2_add 52 = .ok (.getfield 9, 3) := by decide +kernel
theorem dX2_add_55 : decode cX2_add 55 = .ok (.iconst 1, 1) := by decide +kernel
theorem dX2_add_56 : decode cX2_add 56 = .ok (.iadd, 1) := by decide +kernel
theorem dX2_add_57 : decode cX2_add 57 = .ok (.putfield 9, 3) := by decide +kernel
theorem dX2_add_60 : decode cX2_add 60 = .ok (.return_, 1) := by decide +kernel
def rmX2_add : Room := { frames := 0, cells := 0, slots := 0, locals := 0 }
def wX2_add (M : zM) (o0 : Nat) (x1 : Int32) (x2 : Int32) (x3 : Int32) (Q : zM → Prop) : Prop :=
    (((M o0 0) < (12 : Int32)) → (
    vp_in (M o0 0) 12 ∧
    ∀ M6 : zM, M6 = va_up M (o0 + 1) (upd (M (o0 + 1)) (M o0 0).toNatClampNeg x1) →
    vp_in (M6 o0 0) 12 ∧
    ∀ M7 : zM, M7 = va_up M6 (o0 + 2) (upd (M6 (o0 + 2)) (M6 o0 0).toNatClampNeg x2) →
    vp_in (M7 o0 0) 12 ∧
    ∀ M8 : zM, M8 = va_up M7 (o0 + 3) (upd (M7 (o0 + 3)) (M7 o0 0).toNatClampNeg x3) →
    vp_in (M8 o0 0) 12 ∧
    ∀ M9 : zM, M9 = va_up M8 (o0 + 4) (upd (M8 (o0 + 4)) (M8 o0 0).toNatClampNeg (0 : Int32)) →
    ∀ M10 : zM, M10 = va_up M9 o0 (upd (M9 o0) 0 ((M9 o0 0) + (1 : Int32))) →
    Q M10)) ∧
    ((¬ (M o0 0) < (12 : Int32)) → (
    Q M))
set_option maxHeartbeats 4000000 in
set_option maxRecDepth 100000 in
theorem kX2_add {l : Launch} {D : va_G} {Y : zY} {ad kd : Nat → Nat} {RL : List Nat} {M : zM} {J : zL} {o0 : Nat} {x1 : Int32} {x2 : Int32} {x3 : Int32} (h_o0 : kd o0 = 2) {Q : zM → Prop} (hq : wX2_add M o0 x1 x2 x3 Q) : zCv l yX2_add wsX2_add rmX2_add [.ref (ad o0), .int x1, .int x2, .int x3] D Y ad kd RL M J (fun M' J' => Q M' ∧ J = J') := by
  refine z_metv (cc := cX2_add) (maxL := 4) (ret := none) (by decide) rfl (Nat.le_of_ble_eq_true rfl) ?_
  intro p e s m below meth c ls A ar QE hQE hx hb hr hml hown hts hlk hw hl
  have hown : s.vm.findClass RX2 = some m.cls := hown
  have hl : lv_has ls 4 [(0, .ref (ad o0)), (1, .int x1), (2, .int x2), (3, .int x3)] := hl
  have hC := hw.2.2.2.2.2.1
  have g2 : ∀ w ∈ wsX20, w.before ar s = true := (fun w h => hts w (List.mem_cons_of_mem _ (List.mem_append_right _ h)))
  have q1 := hts _ (List.mem_of_getElem? (i := 1) rfl)
  have q2 := hts _ (List.mem_of_getElem? (i := 2) rfl)
  have q3 := hts _ (List.mem_of_getElem? (i := 3) rfl)
  have q4 := hts _ (List.mem_of_getElem? (i := 4) rfl)
  have q5 := hts _ (List.mem_of_getElem? (i := 5) rfl)
  unfold wX2_add at hq
  refine lv_aload_n hx hb dX2_add_0 rfl (lv_at hl 0 rfl) ?_
  refine zg2_pegs hx hb g2 hown hw h_o0 q1 dX2_add_1 ?_
  refine lv_bipush (v := (12 : Int32)) hx hb dX2_add_4 (by decide) ?_
  refine lv_icmp_lt (tgt := 10) hx hb dX2_add_6 (by decide) (fun hc => ?_) (fun hc => ?_)
  · have hq := hq.1 hc
    refine lv_aload_n hx hb dX2_add_10 rfl (lv_at hl 0 rfl) ?_
    refine zg2_kinds hx hb g2 hown hw h_o0 q2 dX2_add_11 ?_
    refine lv_aload_n hx hb dX2_add_14 rfl (lv_at hl 0 rfl) ?_
    refine zg2_pegs hx hb g2 hown hw h_o0 q1 dX2_add_15 ?_
    refine lv_iload_n hx hb dX2_add_18 rfl (lv_at hl 1 rfl) ?_
    obtain ⟨hi, hq⟩ := hq
    refine z_iast (n := 12) hx hb hw (zk_2_1 hC h_o0) hi dX2_add_19 (fun H locs hw => ?_)
    obtain ⟨M6, e_M6⟩ : ∃ y : zM, y = va_up M (o0 + 1) (upd (M (o0 + 1)) (M o0 0).toNatClampNeg x1) := ⟨_, rfl⟩
    rw [← e_M6] at hw
    have hq := hq M6 e_M6
    refine lv_aload_n hx hb dX2_add_20 rfl (lv_at hl 0 rfl) ?_
    refine zg2_versines hx hb g2 hown hw h_o0 q3 dX2_add_21 ?_
    refine lv_aload_n hx hb dX2_add_24 rfl (lv_at hl 0 rfl) ?_
    refine zg2_pegs hx hb g2 hown hw h_o0 q1 dX2_add_25 ?_
    refine lv_iload_n hx hb dX2_add_28 rfl (lv_at hl 2 rfl) ?_
    obtain ⟨hi, hq⟩ := hq
    refine z_iast (n := 12) hx hb hw (zk_2_2 hC h_o0) hi dX2_add_29 (fun H locs hw => ?_)
    obtain ⟨M7, e_M7⟩ : ∃ y : zM, y = va_up M6 (o0 + 2) (upd (M6 (o0 + 2)) (M6 o0 0).toNatClampNeg x2) := ⟨_, rfl⟩
    rw [← e_M7] at hw
    have hq := hq M7 e_M7
    refine lv_aload_n hx hb dX2_add_30 rfl (lv_at hl 0 rfl) ?_
    refine zg2_bounds hx hb g2 hown hw h_o0 q4 dX2_add_31 ?_
    refine lv_aload_n hx hb dX2_add_34 rfl (lv_at hl 0 rfl) ?_
    refine zg2_pegs hx hb g2 hown hw h_o0 q1 dX2_add_35 ?_
    refine lv_iload_n hx hb dX2_add_38 rfl (lv_at hl 3 rfl) ?_
    obtain ⟨hi, hq⟩ := hq
    refine z_iast (n := 12) hx hb hw (zk_2_3 hC h_o0) hi dX2_add_39 (fun H locs hw => ?_)
    obtain ⟨M8, e_M8⟩ : ∃ y : zM, y = va_up M7 (o0 + 3) (upd (M7 (o0 + 3)) (M7 o0 0).toNatClampNeg x3) := ⟨_, rfl⟩
    rw [← e_M8] at hw
    have hq := hq M8 e_M8
    refine lv_aload_n hx hb dX2_add_40 rfl (lv_at hl 0 rfl) ?_
    refine zg2_slews hx hb g2 hown hw h_o0 q5 dX2_add_41 ?_
    refine lv_aload_n hx hb dX2_add_44 rfl (lv_at hl 0 rfl) ?_
    refine zg2_pegs hx hb g2 hown hw h_o0 q1 dX2_add_45 ?_
    refine lv_iconst (v := (0 : Int32)) hx hb dX2_add_48 (by decide) ?_
    obtain ⟨hi, hq⟩ := hq
    refine z_iast (n := 12) hx hb hw (zk_2_4 hC h_o0) hi dX2_add_49 (fun H locs hw => ?_)
    obtain ⟨M9, e_M9⟩ : ∃ y : zM, y = va_up M8 (o0 + 4) (upd (M8 (o0 + 4)) (M8 o0 0).toNatClampNeg (0 : Int32)) := ⟨_, rfl⟩
    rw [← e_M9] at hw
    have hq := hq M9 e_M9
    refine lv_aload_n hx hb dX2_add_50 rfl (lv_at hl 0 rfl) ?_
    refine lv_dup hx hb dX2_add_51 rfl ?_
    refine zg2_pegs hx hb g2 hown hw h_o0 q1 dX2_add_52 ?_
    refine lv_iconst (v := (1 : Int32)) hx hb dX2_add_55 (by decide) ?_
    refine lv_iadd hx hb dX2_add_56 ?_
    refine zp2_pegs hx hb g2 hown hw h_o0 q1 dX2_add_57 (fun H locs hw => ?_)
    obtain ⟨M10, e_M10⟩ : ∃ y : zM, y = va_up M9 o0 (upd (M9 o0) 0 ((M9 o0 0) + (1 : Int32))) := ⟨_, rfl⟩
    rw [← e_M10] at hw
    have hq := hq M10 e_M10
    exact z_vret hQE hx hb hr hlk hw dX2_add_60 ⟨hq, rfl⟩
  · have hq := hq.2 hc
    exact z_vret hQE hx hb hr hlk hw dX2_add_9 ⟨hq, rfl⟩
theorem dX2_isLike_0 : decode cX2_isLike 0 = .ok (.aload_n 0, 1) := by decide +kernel
theorem dX2_isLike_1 : decode cX2_isLike 1 = .ok (.getfield 9, 3) := by decide +kernel
theorem dX2_isLike_4 : decode cX2_isLike 4 = .ok (.aload_n 1, 1) := by decide +kernel
theorem dX2_isLike_5 : decode cX2_isLike 5 = .ok (.getfield 9, 3) := by decide +kernel
theorem dX2_isLike_8 : decode cX2_isLike 8 = .ok (.if_icmp .eq 5, 3) := by decide +kernel
theorem dX2_isLike_11 : decode cX2_isLike 11 = .ok (.iconst 0, 1) := by decide +kernel
theorem dX2_isLike_12 : decode cX2_isLike 12 = .ok (.ireturn, 1) := by decide +kernel
theorem dX2_isLike_13 : decode cX2_isLike 13 = .ok (.iconst 0, 1) := by decide +kernel
theorem dX2_isLike_14 : decode cX2_isLike 14 = .ok (.istore_n 2, 1) := by decide +kernel
theorem dX2_isLike_15 : decode cX2_isLike 15 = .ok (.iload_n 2, 1) := by decide +kernel
theorem dX2_isLike_16 : decode cX2_isLike 16 = .ok (.aload_n 0, 1) := by decide +kernel
theorem dX2_isLike_17 : decode cX2_isLike 17 = .ok (.getfield 9, 3) := by decide +kernel
theorem dX2_isLike_20 : decode cX2_isLike 20 = .ok (.if_icmp .ge 56, 3) := by decide +kernel
theorem dX2_isLike_23 : decode cX2_isLike 23 = .ok (.aload_n 0, 1) := by decide +kernel
theorem dX2_isLike_24 : decode cX2_isLike 24 = .ok (.getfield 18, 3) := by decide +kernel
theorem dX2_isLike_27 : decode cX2_isLike 27 = .ok (.iload_n 2, 1) := by decide +kernel
theorem dX2_isLike_28 : decode cX2_isLike 28 = .ok (.iaload, 1) := by decide +kernel
theorem dX2_isLike_29 : decode cX2_isLike 29 = .ok (.aload_n 1, 1) := by decide +kernel
theorem dX2_isLike_30 : decode cX2_isLike 30 = .ok (.getfield 18, 3) := by decide +kernel
theorem dX2_isLike_33 : decode cX2_isLike 33 = .ok (.iload_n 2, 1) := by decide +kernel
theorem dX2_isLike_34 : decode cX2_isLike 34 = .ok (.iaload, 1) := by decide +kernel
theorem dX2_isLike_35 : decode cX2_isLike 35 = .ok (.if_icmp .ne 33, 3) := by decide +kernel
theorem dX2_isLike_38 : decode cX2_isLike 38 = .ok (.aload_n 0, 1) := by decide +kernel
theorem dX2_isLike_39 : decode cX2_isLike 39 = .ok (.getfield 22, 3) := by decide +kernel
theorem dX2_isLike_42 : decode cX2_isLike 42 = .ok (.iload_n 2, 1) := by decide +kernel
theorem dX2_isLike_43 : decode cX2_isLike 43 = .ok (.iaload, 1) := by decide +kernel
theorem dX2_isLike_44 : decode cX2_isLike 44 = .ok (.aload_n 1, 1) := by decide +kernel
theorem dX2_isLike_45 : decode cX2_isLike 45 = .ok (.getfield 22, 3) := by decide +kernel
theorem dX2_isLike_48 : decode cX2_isLike 48 = .ok (.iload_n 2, 1) := by decide +kernel
theorem dX2_isLike_49 : decode cX2_isLike 49 = .ok (.iaload, 1) := by decide +kernel
theorem dX2_isLike_50 : decode cX2_isLike 50 = .ok (.if_icmp .ne 18, 3) := by decide +kernel
theorem dX2_isLike_53 : decode cX2_isLike 53 = .ok (.aload_n 0, 1) := by decide +kernel
theorem dX2_isLike_54 : decode cX2_isLike 54 = .ok (.getfield 25, 3) := by decide +kernel
theorem dX2_isLike_57 : decode cX2_isLike 57 = .ok (.iload_n 2, 1) := by decide +kernel
theorem dX2_isLike_58 : decode cX2_isLike 58 = .ok (.iaload, 1) := by decide +kernel
theorem dX2_isLike_59 : decode cX2_isLike 59 = .ok (.aload_n 1, 1) := by decide +kernel
theorem dX2_isLike_60 : decode cX2_isLike 60 = .ok (.getfield 25, 3) := by decide +kernel
theorem dX2_isLike_63 : decode cX2_isLike 63 = .ok (.iload_n 2, 1) := by decide +kernel
theorem dX2_isLike_64 : decode cX2_isLike 64 = .ok (.iaload, 1) := by decide +kernel
theorem dX2_isLike_65 : decode cX2_isLike 65 = .ok (.if_icmp .eq 5, 3) := by decide +kernel
theorem dX2_isLike_68 : decode cX2_isLike 68 = .ok (.iconst 0, 1) := by decide +kernel
theorem dX2_isLike_69 : decode cX2_isLike 69 = .ok (.ireturn, 1) := by decide +kernel
theorem dX2_isLike_70 : decode cX2_isLike 70 = .ok (.iinc 2 1, 3) := by decide +kernel
theorem dX2_isLike_73 : decode cX2_isLike 73 = .ok (.goto (-58), 3) := by decide +kernel
theorem dX2_isLike_76 : decode cX2_isLike 76 = .ok (.iconst 1, 1) := by decide +kernel
theorem dX2_isLike_77 : decode cX2_isLike 77 = .ok (.ireturn, 1) := by decide +kernel
def rmX2_isLike : Room := { frames := 0, cells := 0, slots := 0, locals := 0 }
def lpX2_isLike_15 (M : zM) (o0 : Nat) (o1 : Nat) (Q : Int32 → Prop) : Nat → Int32 → Prop
  | 0, _ => False
  | fu15 + 1, x4 =>
    (((M o0 0) ≤ x4) → (
    Q (1 : Int32))) ∧
    ((¬ (M o0 0) ≤ x4) → (
    vp_in x4 12 ∧
    vp_in x4 12 ∧
    ((¬ (M (o0 + 1) x4.toNatClampNeg) = (M (o1 + 1) x4.toNatClampNeg)) → (
    Q (0 : Int32))) ∧
    (((M (o0 + 1) x4.toNatClampNeg) = (M (o1 + 1) x4.toNatClampNeg)) → (
    vp_in x4 12 ∧
    vp_in x4 12 ∧
    ((¬ (M (o0 + 2) x4.toNatClampNeg) = (M (o1 + 2) x4.toNatClampNeg)) → (
    Q (0 : Int32))) ∧
    (((M (o0 + 2) x4.toNatClampNeg) = (M (o1 + 2) x4.toNatClampNeg)) → (
    vp_in x4 12 ∧
    vp_in x4 12 ∧
    (((M (o0 + 3) x4.toNatClampNeg) = (M (o1 + 3) x4.toNatClampNeg)) → (
    ∀ x5 : Int32, x5 = x4 + (1 : Int32) →
    lpX2_isLike_15 M o0 o1 Q fu15 x5)) ∧
    ((¬ (M (o0 + 3) x4.toNatClampNeg) = (M (o1 + 3) x4.toNatClampNeg)) → (
    Q (0 : Int32)))))))))
def wX2_isLike (M : zM) (o0 : Nat) (o1 : Nat) (Q : Int32 → Prop) : Prop :=
    (((M o0 0) = (M o1 0)) → (
    ∃ fu15 : Nat, lpX2_isLike_15 M o0 o1 Q fu15 (0 : Int32))) ∧
    ((¬ (M o0 0) = (M o1 0)) → (
    Q (0 : Int32)))
set_option maxHeartbeats 4000000 in
set_option maxRecDepth 100000 in
theorem kX2_isLike {l : Launch} {D : va_G} {Y : zY} {ad kd : Nat → Nat} {RL : List Nat} {M : zM} {J : zL} {o0 : Nat} {o1 : Nat} (h_o0 : kd o0 = 2) (h_o1 : kd o1 = 2) {Q : Int32 → Prop} (hq : wX2_isLike M o0 o1 Q) : zCi l yX2_isLike wsX2_isLike rmX2_isLike [.ref (ad o0), .ref (ad o1)] D Y ad kd RL M J (fun r M' J' => Q r ∧ M = M' ∧ J = J') := by
  refine z_meti (cc := cX2_isLike) (maxL := 3) (ret := (some .boolean)) (by decide) rfl (Nat.le_of_ble_eq_true rfl) ?_
  intro p e s m below meth c ls A ar QE hQE hx hb hr hml hown hts hlk hw hl
  have hown : s.vm.findClass RX2 = some m.cls := hown
  have hl : lv_has ls 3 [(0, .ref (ad o0)), (1, .ref (ad o1))] := hl
  have hC := hw.2.2.2.2.2.1
  have g2 : ∀ w ∈ wsX20, w.before ar s = true := (fun w h => hts w (List.mem_cons_of_mem _ (List.mem_append_right _ h)))
  have q1 := hts _ (List.mem_of_getElem? (i := 1) rfl)
  have q2 := hts _ (List.mem_of_getElem? (i := 2) rfl)
  have q3 := hts _ (List.mem_of_getElem? (i := 3) rfl)
  have q4 := hts _ (List.mem_of_getElem? (i := 4) rfl)
  unfold wX2_isLike at hq
  refine lv_aload_n hx hb dX2_isLike_0 rfl (lv_at hl 0 rfl) ?_
  refine zg2_pegs hx hb g2 hown hw h_o0 q1 dX2_isLike_1 ?_
  refine lv_aload_n hx hb dX2_isLike_4 rfl (lv_at hl 1 rfl) ?_
  refine zg2_pegs hx hb g2 hown hw h_o1 q1 dX2_isLike_5 ?_
  refine lv_icmp_eq (tgt := 13) hx hb dX2_isLike_8 (by decide) (fun hc => ?_) (fun hc => ?_)
  · have hq := hq.1 hc
    refine lv_iconst (v := (0 : Int32)) hx hb dX2_isLike_13 (by decide) ?_
    refine lv_istore_n (lv' := [(2, .int (0 : Int32)), (0, .ref (ad o0)), (1, .ref (ad o1))]) hx hb dX2_isLike_14 rfl hl (by decide) rfl (fun ls hl => ?_)
    obtain ⟨fu15, hq⟩ := hq
    have lp15 : ∀ (fu15 : Nat) (x4 : Int32) (H : Heap) (locs : List Loc) (ls : Array Slot), lpX2_isLike_15 M o0 o1 Q fu15 x4 → zH D Y ad kd RL M J A s.heap H locs s → lv_has ls 3 [(0, .ref (ad o0)), (1, .ref (ad o1)), (2, .int x4)] → W p l e rmX2_isLike s m ar below meth c H locs 0 0 QE (F0 m 15 ls []) := by
      intro fu15
      induction fu15 with
      | zero => intro x4 H locs ls hq; exact hq.elim
      | succ fu15 ih15 =>
        intro x4 H locs ls hq hw hl
        unfold lpX2_isLike_15 at hq
        refine lv_iload_n hx hb dX2_isLike_15 rfl (lv_at hl 2 rfl) ?_
        refine lv_aload_n hx hb dX2_isLike_16 rfl (lv_at hl 0 rfl) ?_
        refine zg2_pegs hx hb g2 hown hw h_o0 q1 dX2_isLike_17 ?_
        refine lv_icmp_ge (tgt := 76) hx hb dX2_isLike_20 (by decide) (fun hc => ?_) (fun hc => ?_)
        · have hq := hq.1 hc
          refine lv_iconst (v := (1 : Int32)) hx hb dX2_isLike_76 (by decide) ?_
          exact z_zret hQE hx hb hr hlk hw dX2_isLike_77 (by decide) ⟨hq, rfl, rfl⟩
        · have hq := hq.2 hc
          refine lv_aload_n hx hb dX2_isLike_23 rfl (lv_at hl 0 rfl) ?_
          refine zg2_kinds hx hb g2 hown hw h_o0 q2 dX2_isLike_24 ?_
          refine lv_iload_n hx hb dX2_isLike_27 rfl (lv_at hl 2 rfl) ?_
          obtain ⟨hi, hq⟩ := hq
          refine z_iald (n := 12) hx hb hw (zk_2_1 hC h_o0) hi dX2_isLike_28 ?_
          refine lv_aload_n hx hb dX2_isLike_29 rfl (lv_at hl 1 rfl) ?_
          refine zg2_kinds hx hb g2 hown hw h_o1 q2 dX2_isLike_30 ?_
          refine lv_iload_n hx hb dX2_isLike_33 rfl (lv_at hl 2 rfl) ?_
          obtain ⟨hi, hq⟩ := hq
          refine z_iald (n := 12) hx hb hw (zk_2_1 hC h_o1) hi dX2_isLike_34 ?_
          refine lv_icmp_ne (tgt := 68) hx hb dX2_isLike_35 (by decide) (fun hc => ?_) (fun hc => ?_)
          · have hq := hq.1 hc
            refine lv_iconst (v := (0 : Int32)) hx hb dX2_isLike_68 (by decide) ?_
            exact z_zret hQE hx hb hr hlk hw dX2_isLike_69 (by decide) ⟨hq, rfl, rfl⟩
          · have hq := hq.2 hc
            refine lv_aload_n hx hb dX2_isLike_38 rfl (lv_at hl 0 rfl) ?_
            refine zg2_versines hx hb g2 hown hw h_o0 q3 dX2_isLike_39 ?_
            refine lv_iload_n hx hb dX2_isLike_42 rfl (lv_at hl 2 rfl) ?_
            obtain ⟨hi, hq⟩ := hq
            refine z_iald (n := 12) hx hb hw (zk_2_2 hC h_o0) hi dX2_isLike_43 ?_
            refine lv_aload_n hx hb dX2_isLike_44 rfl (lv_at hl 1 rfl) ?_
            refine zg2_versines hx hb g2 hown hw h_o1 q3 dX2_isLike_45 ?_
            refine lv_iload_n hx hb dX2_isLike_48 rfl (lv_at hl 2 rfl) ?_
            obtain ⟨hi, hq⟩ := hq
            refine z_iald (n := 12) hx hb hw (zk_2_2 hC h_o1) hi dX2_isLike_49 ?_
            refine lv_icmp_ne (tgt := 68) hx hb dX2_isLike_50 (by decide) (fun hc => ?_) (fun hc => ?_)
            · have hq := hq.1 hc
              refine lv_iconst (v := (0 : Int32)) hx hb dX2_isLike_68 (by decide) ?_
              exact z_zret hQE hx hb hr hlk hw dX2_isLike_69 (by decide) ⟨hq, rfl, rfl⟩
            · have hq := hq.2 hc
              refine lv_aload_n hx hb dX2_isLike_53 rfl (lv_at hl 0 rfl) ?_
              refine zg2_bounds hx hb g2 hown hw h_o0 q4 dX2_isLike_54 ?_
              refine lv_iload_n hx hb dX2_isLike_57 rfl (lv_at hl 2 rfl) ?_
              obtain ⟨hi, hq⟩ := hq
              refine z_iald (n := 12) hx hb hw (zk_2_3 hC h_o0) hi dX2_isLike_58 ?_
              refine lv_aload_n hx hb dX2_isLike_59 rfl (lv_at hl 1 rfl) ?_
              refine zg2_bounds hx hb g2 hown hw h_o1 q4 dX2_isLike_60 ?_
              refine lv_iload_n hx hb dX2_isLike_63 rfl (lv_at hl 2 rfl) ?_
              obtain ⟨hi, hq⟩ := hq
              refine z_iald (n := 12) hx hb hw (zk_2_3 hC h_o1) hi dX2_isLike_64 ?_
              refine lv_icmp_eq (tgt := 70) hx hb dX2_isLike_65 (by decide) (fun hc => ?_) (fun hc => ?_)
              · have hq := hq.1 hc
                obtain ⟨x5, e_x5⟩ : ∃ y : Int32, y = x4 + (1 : Int32) := ⟨_, rfl⟩
                have hq := hq x5 e_x5
                refine lv_iinc (v := x5) (lv' := [(2, .int x5), (0, .ref (ad o0)), (1, .ref (ad o1))]) hx hb dX2_isLike_70 hl (k := 2) rfl (by rw [e_x5]; rfl) (by decide) rfl (fun ls hl => ?_)
                refine lv_goto (tgt := 15) hx hb dX2_isLike_73 (by decide) ?_
                exact ih15 x5 _ _ _ hq hw (lv_sub hl [1, 2, 0] rfl)
              · have hq := hq.2 hc
                refine lv_iconst (v := (0 : Int32)) hx hb dX2_isLike_68 (by decide) ?_
                exact z_zret hQE hx hb hr hlk hw dX2_isLike_69 (by decide) ⟨hq, rfl, rfl⟩
    exact lp15 fu15 (0 : Int32) _ _ _ hq hw (lv_sub hl [1, 2, 0] rfl)
  · have hq := hq.2 hc
    refine lv_iconst (v := (0 : Int32)) hx hb dX2_isLike_11 (by decide) ?_
    exact z_zret hQE hx hb hr hlk hw dX2_isLike_12 (by decide) ⟨hq, rfl, rfl⟩
theorem dX2_reach_0 : decode cX2_reach 0 = .ok (.iload_n 1, 1) := by decide +kernel
theorem dX2_reach_1 : decode cX2_reach 1 = .ok (.ifCond .lt 31, 3) := by decide +kernel
theorem dX2_reach_4 : decode cX2_reach 4 = .ok (.iload_n 1, 1) := by decide +kernel
theorem dX2_reach_5 : decode cX2_reach 5 = .ok (.aload_n 0, 1) := by decide +kernel
theorem dX2_reach_6 : decode cX2_reach 6 = .ok (.getfield 9, 3) := by decide +kernel
theorem dX2_reach_9 : decode cX2_reach 9 = .ok (.if_icmp .ge 23, 3) := by decide +kernel
theorem dX2_reach_12 : decode cX2_reach 12 = .ok (.aload_n 0, 1) := by decide +kernel
theorem dX2_reach_13 : decode cX2_reach 13 = .ok (.getfield 18, 3) := by decide +kernel
theorem dX2_reach_16 : decode cX2_reach 16 = .ok (.iload_n 1, 1) := by decide +kernel
theorem dX2_reach_17 : decode cX2_reach 17 = .ok (.iaload, 1) := by decide +kernel
theorem dX2_reach_18 : decode cX2_reach 18 = .ok (.iconst 4, 1) := by decide +kernel
theorem dX2_reach_19 : decode cX2_reach 19 = .ok (.if_icmp .eq 13, 3) := by decide +kernel
theorem dX2_reach_22 : decode cX2_reach 22 = .ok (.aload_n 0, 1) := by decide +kernel
theorem dX2_reach_23 : decode cX2_reach 23 = .ok (.getfield 18, 3) := by decide +kernel
theorem dX2_reach_26 : decode cX2_reach 26 = .ok (.iload_n 1, 1) := by decide +kernel
theorem dX2_reach_27 : decode cX2_reach 27 = .ok (.iaload, 1) := by decide +kernel
theorem dX2_reach_28 : decode cX2_reach 28 = .ok (.iconst 5, 1) := by decide +kernel
theorem dX2_reach_29 : decode cX2_reach 29 = .ok (.if_icmp .ne 5, 3) := by decide +kernel
theorem dX2_reach_32 : decode cX2_reach 32 = .ok (.iconst 0, 1) := by decide +kernel
theorem dX2_reach_33 : decode cX2_reach 33 = .ok (.ireturn, 1) := by decide +kernel
theorem dX2_reach_34 : decode cX2_reach 34 = .ok (.aload_n 0, 1) := by decide +kernel
theorem dX2_reach_35 : decode cX2_reach 35 = .ok (.getfield 18, 3) := by decide +kernel
theorem dX2_reach_38 : decode cX2_reach 38 = .ok (.iload_n 1, 1) := by decide +kernel
theorem dX2_reach_39 : decode cX2_reach 39 = .ok (.iaload, 1) := by decide +kernel
theorem dX2_reach_40 : decode cX2_reach 40 = .ok (.iconst 2, 1) := by decide +kernel
theorem dX2_reach_41 : decode cX2_reach 41 = .ok (.if_icmp .ne 18, 3) := by decide +kernel
theorem dX2_reach_44 : decode cX2_reach 44 = .ok (.iconst 0, 1) := by decide +kernel
theorem dX2_reach_45 : decode cX2_reach 45 = .ok (.aload_n 0, 1) := by decide +kernel
theorem dX2_reach_46 : decode cX2_reach 46 = .ok (.getfield 25, 3) := by decide +kernel
theorem dX2_reach_49 : decode cX2_reach 49 = .ok (.iload_n 1, 1) := by decide +kernel
theorem dX2_reach_50 : decode cX2_reach 50 = .ok (.iaload, 1) := by decide +kernel
theorem dX2_reach_51 : decode cX2_reach 51 = .ok (.iconst 1, 1) := by decide +kernel
theorem dX2_reach_52 : decode cX2_reach 52 = .ok (.isub, 1) := by decide +kernel
theorem dX2_reach_53 : decode cX2_reach 53 = .ok (.invokestatic 37, 3) := by decide +kernel
theorem dX2_reach_56 : decode cX2_reach 56 = .ok (.goto 9, 3) := by decide +kernel
theorem dX2_reach_59 : decode cX2_reach 59 = .ok (.aload_n 0, 1) := by decide +kernel
theorem dX2_reach_60 : decode cX2_reach 60 = .ok (.getfield 25, 3) := by decide +kernel
theorem dX2_reach_63 : decode cX2_reach 63 = .ok (.iload_n 1, 1) := by decide +kernel
theorem dX2_reach_64 : decode cX2_reach 64 = .ok (.iaload, 1) := by decide +kernel
theorem dX2_reach_65 : decode cX2_reach 65 = .ok (.ireturn, 1) := by decide +kernel
def rmX2_reach : Room := { frames := 1, cells := 0, slots := 0, locals := 24 }
def wX2_reach (M : zM) (o0 : Nat) (x1 : Int32) (Q : Int32 → Prop) : Prop :=
    ((x1 < 0) → (
    Q (0 : Int32))) ∧
    ((¬ x1 < 0) → (
    (((M o0 0) ≤ x1) → (
    Q (0 : Int32))) ∧
    ((¬ (M o0 0) ≤ x1) → (
    vp_in x1 12 ∧
    (((M (o0 + 1) x1.toNatClampNeg) = (4 : Int32)) → (
    Q (0 : Int32))) ∧
    ((¬ (M (o0 + 1) x1.toNatClampNeg) = (4 : Int32)) → (
    vp_in x1 12 ∧
    ((¬ (M (o0 + 1) x1.toNatClampNeg) = (5 : Int32)) → (
    vp_in x1 12 ∧
    ((¬ (M (o0 + 1) x1.toNatClampNeg) = (2 : Int32)) → (
    vp_in x1 12 ∧
    Q (M (o0 + 3) x1.toNatClampNeg))) ∧
    (((M (o0 + 1) x1.toNatClampNeg) = (2 : Int32)) → (
    vp_in x1 12 ∧
    ∀ x4 : Int32, x4 = (zmax (0 : Int32) ((M (o0 + 3) x1.toNatClampNeg) - (1 : Int32))) →
    Q x4)))) ∧
    (((M (o0 + 1) x1.toNatClampNeg) = (5 : Int32)) → (
    Q (0 : Int32)))))))))
set_option maxHeartbeats 4000000 in
set_option maxRecDepth 100000 in
theorem kX2_reach {l : Launch} {D : va_G} {Y : zY} {ad kd : Nat → Nat} {RL : List Nat} {M : zM} {J : zL} {o0 : Nat} {x1 : Int32} (h_o0 : kd o0 = 2) {Q : Int32 → Prop} (hq : wX2_reach M o0 x1 Q) : zCi l yX2_reach wsX2_reach rmX2_reach [.ref (ad o0), .int x1] D Y ad kd RL M J (fun r M' J' => Q r ∧ M = M' ∧ J = J') := by
  refine z_meti (cc := cX2_reach) (maxL := 2) (ret := (some .int)) (by decide) rfl (Nat.le_of_ble_eq_true rfl) ?_
  intro p e s m below meth c ls A ar QE hQE hx hb hr hml hown hts hlk hw hl
  have hown : s.vm.findClass RX2 = some m.cls := hown
  have hl : lv_has ls 2 [(0, .ref (ad o0)), (1, .int x1)] := hl
  have hC := hw.2.2.2.2.2.1
  have g2 : ∀ w ∈ wsX20, w.before ar s = true := (fun w h => hts w (List.mem_cons_of_mem _ (List.mem_append_right _ h)))
  have q1 := hts _ (List.mem_of_getElem? (i := 1) rfl)
  have q2 := hts _ (List.mem_of_getElem? (i := 2) rfl)
  have q3 := hts _ (List.mem_of_getElem? (i := 3) rfl)
  have q4 := hts _ (List.mem_of_getElem? (i := 4) rfl)
  have q5 := hts _ (List.mem_of_getElem? (i := 5) rfl)
  have q6 := hts _ (List.mem_of_getElem? (i := 6) rfl)
  have q7 := hts _ (List.mem_of_getElem? (i := 7) rfl)
  unfold wX2_reach at hq
  refine lv_iload_n hx hb dX2_reach_0 rfl (lv_at hl 1 rfl) ?_
  refine lv_if_lt (tgt := 32) hx hb dX2_reach_1 (by decide) (fun hc => ?_) (fun hc => ?_)
  · have hq := hq.1 hc
    refine lv_iconst (v := (0 : Int32)) hx hb dX2_reach_32 (by decide) ?_
    exact z_iret hQE hx hb hr hlk hw dX2_reach_33 ⟨hq, rfl, rfl⟩
  · have hq := hq.2 hc
    refine lv_iload_n hx hb dX2_reach_4 rfl (lv_at hl 1 rfl) ?_
    refine lv_aload_n hx hb dX2_reach_5 rfl (lv_at hl 0 rfl) ?_
    refine zg2_pegs hx hb g2 hown hw h_o0 q1 dX2_reach_6 ?_
    refine lv_icmp_ge (tgt := 32) hx hb dX2_reach_9 (by decide) (fun hc => ?_) (fun hc => ?_)
    · have hq := hq.1 hc
      refine lv_iconst (v := (0 : Int32)) hx hb dX2_reach_32 (by decide) ?_
      exact z_iret hQE hx hb hr hlk hw dX2_reach_33 ⟨hq, rfl, rfl⟩
    · have hq := hq.2 hc
      refine lv_aload_n hx hb dX2_reach_12 rfl (lv_at hl 0 rfl) ?_
      refine zg2_kinds hx hb g2 hown hw h_o0 q2 dX2_reach_13 ?_
      refine lv_iload_n hx hb dX2_reach_16 rfl (lv_at hl 1 rfl) ?_
      obtain ⟨hi, hq⟩ := hq
      refine z_iald (n := 12) hx hb hw (zk_2_1 hC h_o0) hi dX2_reach_17 ?_
      refine lv_iconst (v := (4 : Int32)) hx hb dX2_reach_18 (by decide) ?_
      refine lv_icmp_eq (tgt := 32) hx hb dX2_reach_19 (by decide) (fun hc => ?_) (fun hc => ?_)
      · have hq := hq.1 hc
        refine lv_iconst (v := (0 : Int32)) hx hb dX2_reach_32 (by decide) ?_
        exact z_iret hQE hx hb hr hlk hw dX2_reach_33 ⟨hq, rfl, rfl⟩
      · have hq := hq.2 hc
        refine lv_aload_n hx hb dX2_reach_22 rfl (lv_at hl 0 rfl) ?_
        refine zg2_kinds hx hb g2 hown hw h_o0 q2 dX2_reach_23 ?_
        refine lv_iload_n hx hb dX2_reach_26 rfl (lv_at hl 1 rfl) ?_
        obtain ⟨hi, hq⟩ := hq
        refine z_iald (n := 12) hx hb hw (zk_2_1 hC h_o0) hi dX2_reach_27 ?_
        refine lv_iconst (v := (5 : Int32)) hx hb dX2_reach_28 (by decide) ?_
        refine lv_icmp_ne (tgt := 34) hx hb dX2_reach_29 (by decide) (fun hc => ?_) (fun hc => ?_)
        · have hq := hq.1 hc
          refine lv_aload_n hx hb dX2_reach_34 rfl (lv_at hl 0 rfl) ?_
          refine zg2_kinds hx hb g2 hown hw h_o0 q2 dX2_reach_35 ?_
          refine lv_iload_n hx hb dX2_reach_38 rfl (lv_at hl 1 rfl) ?_
          obtain ⟨hi, hq⟩ := hq
          refine z_iald (n := 12) hx hb hw (zk_2_1 hC h_o0) hi dX2_reach_39 ?_
          refine lv_iconst (v := (2 : Int32)) hx hb dX2_reach_40 (by decide) ?_
          refine lv_icmp_ne (tgt := 59) hx hb dX2_reach_41 (by decide) (fun hc => ?_) (fun hc => ?_)
          · have hq := hq.1 hc
            refine lv_aload_n hx hb dX2_reach_59 rfl (lv_at hl 0 rfl) ?_
            refine zg2_bounds hx hb g2 hown hw h_o0 q3 dX2_reach_60 ?_
            refine lv_iload_n hx hb dX2_reach_63 rfl (lv_at hl 1 rfl) ?_
            obtain ⟨hi, hq⟩ := hq
            refine z_iald (n := 12) hx hb hw (zk_2_3 hC h_o0) hi dX2_reach_64 ?_
            exact z_iret hQE hx hb hr hlk hw dX2_reach_65 ⟨hq, rfl, rfl⟩
          · have hq := hq.2 hc
            refine lv_iconst (v := (0 : Int32)) hx hb dX2_reach_44 (by decide) ?_
            refine lv_aload_n hx hb dX2_reach_45 rfl (lv_at hl 0 rfl) ?_
            refine zg2_bounds hx hb g2 hown hw h_o0 q3 dX2_reach_46 ?_
            refine lv_iload_n hx hb dX2_reach_49 rfl (lv_at hl 1 rfl) ?_
            obtain ⟨hi, hq⟩ := hq
            refine z_iald (n := 12) hx hb hw (zk_2_3 hC h_o0) hi dX2_reach_50 ?_
            refine lv_iconst (v := (1 : Int32)) hx hb dX2_reach_51 (by decide) ?_
            refine lv_isub hx hb dX2_reach_52 ?_
            refine va_mmax hx hb (hml.trans hl.1.symm) hown q4 q5 q6 q7 (Nat.le_of_ble_eq_true rfl) (Nat.le_of_ble_eq_true rfl) (Nat.zero_le _) (Nat.zero_le _) dX2_reach_53 ?_
            refine lv_topi (fun x4 e_x4 => ?_)
            have hq := hq x4 e_x4
            refine lv_goto (tgt := 65) hx hb dX2_reach_56 (by decide) ?_
            exact z_iret hQE hx hb hr hlk hw dX2_reach_65 ⟨hq, rfl, rfl⟩
        · have hq := hq.2 hc
          refine lv_iconst (v := (0 : Int32)) hx hb dX2_reach_32 (by decide) ?_
          exact z_iret hQE hx hb hr hlk hw dX2_reach_33 ⟨hq, rfl, rfl⟩
theorem dX2_isSoft_0 : decode cX2_isSoft 0 = .ok (.iload_n 1, 1) := by decide +kernel
theorem dX2_isSoft_1 : decode cX2_isSoft 1 = .ok (.ifCond .lt 25, 3) := by decide +kernel
theorem dX2_isSoft_4 : decode cX2_isSoft 4 = .ok (.iload_n 1, 1) := by decide +kernel
theorem dX2_isSoft_5 : decode cX2_isSoft 5 = .ok (.aload_n 0, 1) := by decide +kernel
theorem dX2_isSoft_6 : decode cX2_isSoft 6 = .ok (.getfield 9, 3) := by decide +kernel
theorem dX2_isSoft_9 : decode cX2_isSoft 9 = .ok (.if_icmp .ge 17, 3) := by decide +kernel
theorem dX2_isSoft_12 : decode cX2_isSoft 12 = .ok (.aload_n 0, 1) := by decide +kernel
theorem dX2_isSoft_13 : decode cX2_isSoft 13 = .ok (.getfield 18, 3) := by decide +kernel
theorem dX2_isSoft_16 : decode cX2_isSoft 16 = .ok (.iload_n 1, 1) := by decide +kernel
theorem dX2_isSoft_17 : decode cX2_isSoft 17 = .ok (.iaload, 1) := by decide +kernel
theorem dX2_isSoft_18 : decode cX2_isSoft 18 = .ok (.iconst 2, 1) := by decide +kernel
theorem dX2_isSoft_19 : decode cX2_isSoft 19 = .ok (.if_icmp .ne 7, 3) := by decide +kernel
theorem dX2_isSoft_22 : decode cX2_isSoft 22 = .ok (.iconst 1, 1) := by decide +kernel
theorem dX2_isSoft_23 : decode cX2_isSoft 23 = .ok (.goto 4, 3) := by decide +kernel
theorem dX2_isSoft_26 : decode cX2_isSoft 26 = .ok (.iconst 0, 1) := by decide +kernel
theorem dX2_isSoft_27 : decode cX2_isSoft 27 = .ok (.ireturn, 1) := by decide +kernel
def rmX2_isSoft : Room := { frames := 0, cells := 0, slots := 0, locals := 0 }
def wX2_isSoft (M : zM) (o0 : Nat) (x1 : Int32) (Q : Int32 → Prop) : Prop :=
    ((x1 < 0) → (
    Q (0 : Int32))) ∧
    ((¬ x1 < 0) → (
    (((M o0 0) ≤ x1) → (
    Q (0 : Int32))) ∧
    ((¬ (M o0 0) ≤ x1) → (
    vp_in x1 12 ∧
    ((¬ (M (o0 + 1) x1.toNatClampNeg) = (2 : Int32)) → (
    Q (0 : Int32))) ∧
    (((M (o0 + 1) x1.toNatClampNeg) = (2 : Int32)) → (
    Q (1 : Int32)))))))
set_option maxHeartbeats 4000000 in
set_option maxRecDepth 100000 in
theorem kX2_isSoft {l : Launch} {D : va_G} {Y : zY} {ad kd : Nat → Nat} {RL : List Nat} {M : zM} {J : zL} {o0 : Nat} {x1 : Int32} (h_o0 : kd o0 = 2) {Q : Int32 → Prop} (hq : wX2_isSoft M o0 x1 Q) : zCi l yX2_isSoft wsX2_isSoft rmX2_isSoft [.ref (ad o0), .int x1] D Y ad kd RL M J (fun r M' J' => Q r ∧ M = M' ∧ J = J') := by
  refine z_meti (cc := cX2_isSoft) (maxL := 2) (ret := (some .boolean)) (by decide) rfl (Nat.le_of_ble_eq_true rfl) ?_
  intro p e s m below meth c ls A ar QE hQE hx hb hr hml hown hts hlk hw hl
  have hown : s.vm.findClass RX2 = some m.cls := hown
  have hl : lv_has ls 2 [(0, .ref (ad o0)), (1, .int x1)] := hl
  have hC := hw.2.2.2.2.2.1
  have g2 : ∀ w ∈ wsX20, w.before ar s = true := (fun w h => hts w (List.mem_cons_of_mem _ (List.mem_append_right _ h)))
  have q1 := hts _ (List.mem_of_getElem? (i := 1) rfl)
  have q2 := hts _ (List.mem_of_getElem? (i := 2) rfl)
  unfold wX2_isSoft at hq
  refine lv_iload_n hx hb dX2_isSoft_0 rfl (lv_at hl 1 rfl) ?_
  refine lv_if_lt (tgt := 26) hx hb dX2_isSoft_1 (by decide) (fun hc => ?_) (fun hc => ?_)
  · have hq := hq.1 hc
    refine lv_iconst (v := (0 : Int32)) hx hb dX2_isSoft_26 (by decide) ?_
    exact z_zret hQE hx hb hr hlk hw dX2_isSoft_27 (by decide) ⟨hq, rfl, rfl⟩
  · have hq := hq.2 hc
    refine lv_iload_n hx hb dX2_isSoft_4 rfl (lv_at hl 1 rfl) ?_
    refine lv_aload_n hx hb dX2_isSoft_5 rfl (lv_at hl 0 rfl) ?_
    refine zg2_pegs hx hb g2 hown hw h_o0 q1 dX2_isSoft_6 ?_
    refine lv_icmp_ge (tgt := 26) hx hb dX2_isSoft_9 (by decide) (fun hc => ?_) (fun hc => ?_)
    · have hq := hq.1 hc
      refine lv_iconst (v := (0 : Int32)) hx hb dX2_isSoft_26 (by decide) ?_
      exact z_zret hQE hx hb hr hlk hw dX2_isSoft_27 (by decide) ⟨hq, rfl, rfl⟩
    · have hq := hq.2 hc
      refine lv_aload_n hx hb dX2_isSoft_12 rfl (lv_at hl 0 rfl) ?_
      refine zg2_kinds hx hb g2 hown hw h_o0 q2 dX2_isSoft_13 ?_
      refine lv_iload_n hx hb dX2_isSoft_16 rfl (lv_at hl 1 rfl) ?_
      obtain ⟨hi, hq⟩ := hq
      refine z_iald (n := 12) hx hb hw (zk_2_1 hC h_o0) hi dX2_isSoft_17 ?_
      refine lv_iconst (v := (2 : Int32)) hx hb dX2_isSoft_18 (by decide) ?_
      refine lv_icmp_ne (tgt := 26) hx hb dX2_isSoft_19 (by decide) (fun hc => ?_) (fun hc => ?_)
      · have hq := hq.1 hc
        refine lv_iconst (v := (0 : Int32)) hx hb dX2_isSoft_26 (by decide) ?_
        exact z_zret hQE hx hb hr hlk hw dX2_isSoft_27 (by decide) ⟨hq, rfl, rfl⟩
      · have hq := hq.2 hc
        refine lv_iconst (v := (1 : Int32)) hx hb dX2_isSoft_22 (by decide) ?_
        refine lv_goto (tgt := 27) hx hb dX2_isSoft_23 (by decide) ?_
        exact z_zret hQE hx hb hr hlk hw dX2_isSoft_27 (by decide) ⟨hq, rfl, rfl⟩
set_option maxRecDepth 20000 in
theorem ggX2_settledAt_X2_slewAt : GoodIn wsX2_settledAt wsX2_slewAt := goodIn_r _ [5, 6, 7, 13, 14, 15, 16, 17, 18] (by decide +kernel) (by decide +kernel)
set_option maxRecDepth 20000 in
theorem gX2_settledAt_X2_slewAt : GoodIn wsX2_settledAt (wsV RX2 43 RX2 yX2_slewAt wsX2_slewAt) := goodIn_app (goodIn_of _ (by decide +kernel)) ggX2_settledAt_X2_slewAt
set_option maxRecDepth 20000 in
theorem ggX2_settledAt_X2_isSoft : GoodIn wsX2_settledAt wsX2_isSoft := goodIn_r _ [11, 6, 12, 13, 14, 15, 16, 17, 18] (by decide +kernel) (by decide +kernel)
set_option maxRecDepth 20000 in
theorem gX2_settledAt_X2_isSoft : GoodIn wsX2_settledAt (wsV RX2 47 RX2 yX2_isSoft wsX2_isSoft) := goodIn_app (goodIn_of _ (by decide +kernel)) ggX2_settledAt_X2_isSoft
theorem dX2_settledAt_0 : decode cX2_settledAt 0 = .ok (.aload_n 0, 1) := by decide +kernel
theorem dX2_settledAt_1 : decode cX2_settledAt 1 = .ok (.iload_n 1, 1) := by decide +kernel
theorem dX2_settledAt_2 : decode cX2_settledAt 2 = .ok (.invokevirtual 43, 3) := by decide +kernel
theorem dX2_settledAt_5 : decode cX2_settledAt 5 = .ok (.istore_n 2, 1) := by decide +kernel
theorem dX2_settledAt_6 : decode cX2_settledAt 6 = .ok (.aload_n 0, 1) := by decide +kernel
theorem dX2_settledAt_7 : decode cX2_settledAt 7 = .ok (.iload_n 1, 1) := by decide +kernel
theorem dX2_settledAt_8 : decode cX2_settledAt 8 = .ok (.invokevirtual 47, 3) := by decide +kernel
theorem dX2_settledAt_11 : decode cX2_settledAt 11 = .ok (.ifCond .eq 11, 3) := by decide +kernel
theorem dX2_settledAt_14 : decode cX2_settledAt 14 = .ok (.iload_n 2, 1) := by decide +kernel
theorem dX2_settledAt_15 : decode cX2_settledAt 15 = .ok (.iload_n 2, 1) := by decide +kernel
theorem dX2_settledAt_16 : decode cX2_settledAt 16 = .ok (.iconst 2, 1) := by decide +kernel
theorem dX2_settledAt_17 : decode cX2_settledAt 17 = .ok (.idiv, 1) := by decide +kernel
theorem dX2_settledAt_18 : decode cX2_settledAt 18 = .ok (.isub, 1) := by decide +kernel
theorem dX2_settledAt_19 : decode cX2_settledAt 19 = .ok (.goto 4, 3) := by decide +kernel
theorem dX2_settledAt_22 : decode cX2_settledAt 22 = .ok (.iload_n 2, 1) := by decide +kernel
theorem dX2_settledAt_23 : decode cX2_settledAt 23 = .ok (.ireturn, 1) := by decide +kernel
def rmX2_settledAt : Room := { frames := 1, cells := 0, slots := 0, locals := 21 }
def wX2_settledAt (M : zM) (o0 : Nat) (x1 : Int32) (Q : Int32 → Prop) : Prop :=
    wX2_slewAt M o0 x1 (fun r4 =>
    wX2_isSoft M o0 x1 (fun r5 =>
    ((r5 = 0) → (
    Q r4)) ∧
    ((¬ r5 = 0) → (
    Q (r4 - (r4 / (2 : Int32)))))))
set_option maxHeartbeats 4000000 in
set_option maxRecDepth 100000 in
theorem kX2_settledAt {l : Launch} {D : va_G} {Y : zY} {ad kd : Nat → Nat} {RL : List Nat} {M : zM} {J : zL} {o0 : Nat} {x1 : Int32} (h_o0 : kd o0 = 2) {Q : Int32 → Prop} (hq : wX2_settledAt M o0 x1 Q) : zCi l yX2_settledAt wsX2_settledAt rmX2_settledAt [.ref (ad o0), .int x1] D Y ad kd RL M J (fun r M' J' => Q r ∧ M = M' ∧ J = J') := by
  refine z_meti (cc := cX2_settledAt) (maxL := 3) (ret := (some .int)) (by decide) rfl (Nat.le_of_ble_eq_true rfl) ?_
  intro p e s m below meth c ls A ar QE hQE hx hb hr hml hown hts hlk hw hl
  have hown : s.vm.findClass RX2 = some m.cls := hown
  have hl : lv_has ls 3 [(0, .ref (ad o0)), (1, .int x1)] := hl
  have hC := hw.2.2.2.2.2.1
  unfold wX2_settledAt at hq
  refine lv_aload_n hx hb dX2_settledAt_0 rfl (lv_at hl 0 rfl) ?_
  refine lv_iload_n hx hb dX2_settledAt_1 rfl (lv_at hl 1 rfl) ?_
  refine z_cvi ⟨hx, hb, hml, hown, hts⟩ hw h_o0 (kX2_slewAt h_o0 hq) (by decide) rfl (cwV 1 hts gX2_settledAt_X2_slewAt rfl rfl rfl (by decide +kernel) ⟨Nat.le_of_ble_eq_true rfl, Nat.le_of_ble_eq_true rfl⟩) rfl hl.1 rfl (Nat.le_of_ble_eq_true rfl) dX2_settledAt_2 ⟨Nat.zero_le _, Nat.zero_le _⟩ (fun r4 M0 J0 H locs hq hw => ?_)
  obtain ⟨hq, rfl, rfl⟩ := hq
  refine lv_istore_n (lv' := [(2, .int r4), (0, .ref (ad o0)), (1, .int x1)]) hx hb dX2_settledAt_5 rfl hl (by decide) rfl (fun ls hl => ?_)
  refine lv_aload_n hx hb dX2_settledAt_6 rfl (lv_at hl 1 rfl) ?_
  refine lv_iload_n hx hb dX2_settledAt_7 rfl (lv_at hl 2 rfl) ?_
  refine z_cvi ⟨hx, hb, hml, hown, hts⟩ hw h_o0 (kX2_isSoft h_o0 hq) (by decide) rfl (cwV 1 hts gX2_settledAt_X2_isSoft rfl rfl rfl (by decide +kernel) ⟨Nat.le_of_ble_eq_true rfl, Nat.le_of_ble_eq_true rfl⟩) rfl hl.1 rfl (Nat.le_of_ble_eq_true rfl) dX2_settledAt_8 ⟨Nat.zero_le _, Nat.zero_le _⟩ (fun r5 M0 J0 H locs hq hw => ?_)
  obtain ⟨hq, rfl, rfl⟩ := hq
  refine lv_if_eq (tgt := 22) hx hb dX2_settledAt_11 (by decide) (fun hc => ?_) (fun hc => ?_)
  · have hq := hq.1 hc
    refine lv_iload_n hx hb dX2_settledAt_22 rfl (lv_at hl 0 rfl) ?_
    exact z_iret hQE hx hb hr hlk hw dX2_settledAt_23 ⟨hq, rfl, rfl⟩
  · have hq := hq.2 hc
    refine lv_iload_n hx hb dX2_settledAt_14 rfl (lv_at hl 0 rfl) ?_
    refine lv_iload_n hx hb dX2_settledAt_15 rfl (lv_at hl 0 rfl) ?_
    refine lv_iconst (v := (2 : Int32)) hx hb dX2_settledAt_16 (by decide) ?_
    refine lv_idiv hx hb dX2_settledAt_17 (by decide) ?_
    refine lv_isub hx hb dX2_settledAt_18 ?_
    refine lv_goto (tgt := 23) hx hb dX2_settledAt_19 (by decide) ?_
    exact z_iret hQE hx hb hr hlk hw dX2_settledAt_23 ⟨hq, rfl, rfl⟩
theorem dX2_isEased_0 : decode cX2_isEased 0 = .ok (.iload_n 1, 1) := by decide +kernel
theorem dX2_isEased_1 : decode cX2_isEased 1 = .ok (.ifCond .lt 35, 3) := by decide +kernel
theorem dX2_isEased_4 : decode cX2_isEased 4 = .ok (.iload_n 1, 1) := by decide +kernel
theorem dX2_isEased_5 : decode cX2_isEased 5 = .ok (.aload_n 0, 1) := by decide +kernel
theorem dX2_isEased_6 : decode cX2_isEased 6 = .ok (.getfield 9, 3) := by decide +kernel
theorem dX2_isEased_9 : decode cX2_isEased 9 = .ok (.iconst 1, 1) := by decide +kernel
theorem dX2_isEased_10 : decode cX2_isEased 10 = .ok (.isub, 1) := by decide +kernel
theorem dX2_isEased_11 : decode cX2_isEased 11 = .ok (.if_icmp .ge 25, 3) := by decide +kernel
theorem dX2_isEased_14 : decode cX2_isEased 14 = .ok (.aload_n 0, 1) := by decide +kernel
theorem dX2_isEased_15 : decode cX2_isEased 15 = .ok (.getfield 18, 3) := by decide +kernel
theorem dX2_isEased_18 : decode cX2_isEased 18 = .ok (.iload_n 1, 1) := by decide +kernel
theorem dX2_isEased_19 : decode cX2_isEased 19 = .ok (.iaload, 1) := by decide +kernel
theorem dX2_isEased_20 : decode cX2_isEased 20 = .ok (.iconst 3, 1) := by decide +kernel
theorem dX2_isEased_21 : decode cX2_isEased 21 = .ok (.if_icmp .eq 15, 3) := by decide +kernel
theorem dX2_isEased_24 : decode cX2_isEased 24 = .ok (.aload_n 0, 1) := by decide +kernel
theorem dX2_isEased_25 : decode cX2_isEased 25 = .ok (.getfield 18, 3) := by decide +kernel
theorem dX2_isEased_28 : decode cX2_isEased 28 = .ok (.iload_n 1, 1) := by decide +kernel
theorem dX2_isEased_29 : decode cX2_isEased 29 = .ok (.iconst 1, 1) := by decide +kernel
theorem dX2_isEased_30 : decode cX2_isEased 30 = .ok (.iadd, 1) := by decide +kernel
theorem dX2_isEased_31 : decode cX2_isEased 31 = .ok (.iaload, 1) := by decide +kernel
theorem dX2_isEased_32 : decode cX2_isEased 32 = .ok (.iconst 3, 1) := by decide +kernel
theorem dX2_isEased_33 : decode cX2_isEased 33 = .ok (.if_icmp .ne 7, 3) := by decide +kernel
theorem dX2_isEased_36 : decode cX2_isEased 36 = .ok (.iconst 1, 1) := by decide +kernel
theorem dX2_isEased_37 : decode cX2_isEased 37 = .ok (.goto 4, 3) := by decide +kernel
theorem dX2_isEased_40 : decode cX2_isEased 40 = .ok (.iconst 0, 1) := by decide +kernel
theorem dX2_isEased_41 : decode cX2_isEased 41 = .ok (.ireturn, 1) := by decide +kernel
def rmX2_isEased : Room := { frames := 0, cells := 0, slots := 0, locals := 0 }
def wX2_isEased (M : zM) (o0 : Nat) (x1 : Int32) (Q : Int32 → Prop) : Prop :=
    ((x1 < 0) → (
    Q (1 : Int32))) ∧
    ((¬ x1 < 0) → (
    ((((M o0 0) - (1 : Int32)) ≤ x1) → (
    Q (1 : Int32))) ∧
    ((¬ ((M o0 0) - (1 : Int32)) ≤ x1) → (
    vp_in x1 12 ∧
    (((M (o0 + 1) x1.toNatClampNeg) = (3 : Int32)) → (
    Q (1 : Int32))) ∧
    ((¬ (M (o0 + 1) x1.toNatClampNeg) = (3 : Int32)) → (
    vp_in (x1 + (1 : Int32)) 12 ∧
    ((¬ (M (o0 + 1) (x1 + (1 : Int32)).toNatClampNeg) = (3 : Int32)) → (
    Q (0 : Int32))) ∧
    (((M (o0 + 1) (x1 + (1 : Int32)).toNatClampNeg) = (3 : Int32)) → (
    Q (1 : Int32)))))))))
set_option maxHeartbeats 4000000 in
set_option maxRecDepth 100000 in
theorem kX2_isEased {l : Launch} {D : va_G} {Y : zY} {ad kd : Nat → Nat} {RL : List Nat} {M : zM} {J : zL} {o0 : Nat} {x1 : Int32} (h_o0 : kd o0 = 2) {Q : Int32 → Prop} (hq : wX2_isEased M o0 x1 Q) : zCi l yX2_isEased wsX2_isEased rmX2_isEased [.ref (ad o0), .int x1] D Y ad kd RL M J (fun r M' J' => Q r ∧ M = M' ∧ J = J') := by
  refine z_meti (cc := cX2_isEased) (maxL := 2) (ret := (some .boolean)) (by decide) rfl (Nat.le_of_ble_eq_true rfl) ?_
  intro p e s m below meth c ls A ar QE hQE hx hb hr hml hown hts hlk hw hl
  have hown : s.vm.findClass RX2 = some m.cls := hown
  have hl : lv_has ls 2 [(0, .ref (ad o0)), (1, .int x1)] := hl
  have hC := hw.2.2.2.2.2.1
  have g2 : ∀ w ∈ wsX20, w.before ar s = true := (fun w h => hts w (List.mem_cons_of_mem _ (List.mem_append_right _ h)))
  have q1 := hts _ (List.mem_of_getElem? (i := 1) rfl)
  have q2 := hts _ (List.mem_of_getElem? (i := 2) rfl)
  unfold wX2_isEased at hq
  refine lv_iload_n hx hb dX2_isEased_0 rfl (lv_at hl 1 rfl) ?_
  refine lv_if_lt (tgt := 36) hx hb dX2_isEased_1 (by decide) (fun hc => ?_) (fun hc => ?_)
  · have hq := hq.1 hc
    refine lv_iconst (v := (1 : Int32)) hx hb dX2_isEased_36 (by decide) ?_
    refine lv_goto (tgt := 41) hx hb dX2_isEased_37 (by decide) ?_
    exact z_zret hQE hx hb hr hlk hw dX2_isEased_41 (by decide) ⟨hq, rfl, rfl⟩
  · have hq := hq.2 hc
    refine lv_iload_n hx hb dX2_isEased_4 rfl (lv_at hl 1 rfl) ?_
    refine lv_aload_n hx hb dX2_isEased_5 rfl (lv_at hl 0 rfl) ?_
    refine zg2_pegs hx hb g2 hown hw h_o0 q1 dX2_isEased_6 ?_
    refine lv_iconst (v := (1 : Int32)) hx hb dX2_isEased_9 (by decide) ?_
    refine lv_isub hx hb dX2_isEased_10 ?_
    refine lv_icmp_ge (tgt := 36) hx hb dX2_isEased_11 (by decide) (fun hc => ?_) (fun hc => ?_)
    · have hq := hq.1 hc
      refine lv_iconst (v := (1 : Int32)) hx hb dX2_isEased_36 (by decide) ?_
      refine lv_goto (tgt := 41) hx hb dX2_isEased_37 (by decide) ?_
      exact z_zret hQE hx hb hr hlk hw dX2_isEased_41 (by decide) ⟨hq, rfl, rfl⟩
    · have hq := hq.2 hc
      refine lv_aload_n hx hb dX2_isEased_14 rfl (lv_at hl 0 rfl) ?_
      refine zg2_kinds hx hb g2 hown hw h_o0 q2 dX2_isEased_15 ?_
      refine lv_iload_n hx hb dX2_isEased_18 rfl (lv_at hl 1 rfl) ?_
      obtain ⟨hi, hq⟩ := hq
      refine z_iald (n := 12) hx hb hw (zk_2_1 hC h_o0) hi dX2_isEased_19 ?_
      refine lv_iconst (v := (3 : Int32)) hx hb dX2_isEased_20 (by decide) ?_
      refine lv_icmp_eq (tgt := 36) hx hb dX2_isEased_21 (by decide) (fun hc => ?_) (fun hc => ?_)
      · have hq := hq.1 hc
        refine lv_iconst (v := (1 : Int32)) hx hb dX2_isEased_36 (by decide) ?_
        refine lv_goto (tgt := 41) hx hb dX2_isEased_37 (by decide) ?_
        exact z_zret hQE hx hb hr hlk hw dX2_isEased_41 (by decide) ⟨hq, rfl, rfl⟩
      · have hq := hq.2 hc
        refine lv_aload_n hx hb dX2_isEased_24 rfl (lv_at hl 0 rfl) ?_
        refine zg2_kinds hx hb g2 hown hw h_o0 q2 dX2_isEased_25 ?_
        refine lv_iload_n hx hb dX2_isEased_28 rfl (lv_at hl 1 rfl) ?_
        refine lv_iconst (v := (1 : Int32)) hx hb dX2_isEased_29 (by decide) ?_
        refine lv_iadd hx hb dX2_isEased_30 ?_
        obtain ⟨hi, hq⟩ := hq
        refine z_iald (n := 12) hx hb hw (zk_2_1 hC h_o0) hi dX2_isEased_31 ?_
        refine lv_iconst (v := (3 : Int32)) hx hb dX2_isEased_32 (by decide) ?_
        refine lv_icmp_ne (tgt := 40) hx hb dX2_isEased_33 (by decide) (fun hc => ?_) (fun hc => ?_)
        · have hq := hq.1 hc
          refine lv_iconst (v := (0 : Int32)) hx hb dX2_isEased_40 (by decide) ?_
          exact z_zret hQE hx hb hr hlk hw dX2_isEased_41 (by decide) ⟨hq, rfl, rfl⟩
        · have hq := hq.2 hc
          refine lv_iconst (v := (1 : Int32)) hx hb dX2_isEased_36 (by decide) ?_
          refine lv_goto (tgt := 41) hx hb dX2_isEased_37 (by decide) ?_
          exact z_zret hQE hx hb hr hlk hw dX2_isEased_41 (by decide) ⟨hq, rfl, rfl⟩
set_option maxRecDepth 20000 in
theorem ggX2_step_X2_isEased : GoodIn wsX2_step wsX2_isEased := goodIn_r _ [9, 10, 11, 22, 23, 24, 25, 26, 27] (by decide +kernel) (by decide +kernel)
set_option maxRecDepth 20000 in
theorem gX2_step_X2_isEased : GoodIn wsX2_step (wsV RX2 51 RX2 yX2_isEased wsX2_isEased) := goodIn_app (goodIn_of _ (by decide +kernel)) ggX2_step_X2_isEased
set_option maxRecDepth 20000 in
theorem ggX2_step_X2_now : GoodIn wsX2_step wsX2_now := goodIn_r _ [15, 16, 17, 18, 19, 20, 8, 21, 10, 22, 23, 24, 25, 26, 27] (by decide +kernel) (by decide +kernel)
set_option maxRecDepth 20000 in
theorem gX2_step_X2_now : GoodIn wsX2_step (wsV RX2 54 RX2 yX2_now wsX2_now) := goodIn_app (goodIn_of _ (by decide +kernel)) ggX2_step_X2_now
theorem dX2_step_0 : decode cX2_step 0 = .ok (.aload_n 0, 1) := by decide +kernel
theorem dX2_step_1 : decode cX2_step 1 = .ok (.iload_n 1, 1) := by decide +kernel
theorem dX2_step_2 : decode cX2_step 2 = .ok (.invokevirtual 51, 3) := by decide +kernel
theorem dX2_step_5 : decode cX2_step 5 = .ok (.ifCond .eq 7, 3) := by decide +kernel
theorem dX2_step_8 : decode cX2_step 8 = .ok (.iconst 0, 1) := by decide +kernel
theorem dX2_step_9 : decode cX2_step 9 = .ok (.goto 19, 3) := by decide +kernel
theorem dX2_step_12 : decode cX2_step 12 = .ok (.aload_n 0, 1) := by decide +kernel
theorem dX2_step_13 : decode cX2_step 13 = .ok (.iload_n 1, 1) := by decide +kernel
theorem dX2_step_14 : decode cX2_step 14 = .ok (.invokevirtual 54, 3) := by decide +kernel
theorem dX2_step_17 : decode cX2_step 17 = .ok (.aload_n 0, 1) := by decide +kernel
theorem dX2_step_18 : decode cX2_step 18 = .ok (.iload_n 1, 1) := by decide +kernel
theorem dX2_step_19 : decode cX2_step 19 = .ok (.iconst 1, 1) := by decide +kernel
theorem dX2_step_20 : decode cX2_step 20 = .ok (.iadd, 1) := by decide +kernel
theorem dX2_step_21 : decode cX2_step 21 = .ok (.invokevirtual 54, 3) := by decide +kernel
theorem dX2_step_24 : decode cX2_step 24 = .ok (.isub, 1) := by decide +kernel
theorem dX2_step_25 : decode cX2_step 25 = .ok (.invokestatic 57, 3) := by decide +kernel
theorem dX2_step_28 : decode cX2_step 28 = .ok (.ireturn, 1) := by decide +kernel
def rmX2_step : Room := { frames := 2, cells := 0, slots := 0, locals := 42 }
def wX2_step (M : zM) (o0 : Nat) (x1 : Int32) (Q : Int32 → Prop) : Prop :=
    wX2_isEased M o0 x1 (fun r4 =>
    ((r4 = 0) → (
    wX2_now M o0 x1 (fun r5 =>
    wX2_now M o0 (x1 + (1 : Int32)) (fun r6 =>
    Q (zabs (r5 - r6)))))) ∧
    ((¬ r4 = 0) → (
    Q (0 : Int32))))
set_option maxHeartbeats 4000000 in
set_option maxRecDepth 100000 in
theorem kX2_step {l : Launch} {D : va_G} {Y : zY} {ad kd : Nat → Nat} {RL : List Nat} {M : zM} {J : zL} {o0 : Nat} {x1 : Int32} (h_o0 : kd o0 = 2) {Q : Int32 → Prop} (hq : wX2_step M o0 x1 Q) : zCi l yX2_step wsX2_step rmX2_step [.ref (ad o0), .int x1] D Y ad kd RL M J (fun r M' J' => Q r ∧ M = M' ∧ J = J') := by
  refine z_meti (cc := cX2_step) (maxL := 2) (ret := (some .int)) (by decide) rfl (Nat.le_of_ble_eq_true rfl) ?_
  intro p e s m below meth c ls A ar QE hQE hx hb hr hml hown hts hlk hw hl
  have hown : s.vm.findClass RX2 = some m.cls := hown
  have hl : lv_has ls 2 [(0, .ref (ad o0)), (1, .int x1)] := hl
  have hC := hw.2.2.2.2.2.1
  have q1 := hts _ (List.mem_of_getElem? (i := 1) rfl)
  have q2 := hts _ (List.mem_of_getElem? (i := 2) rfl)
  have q3 := hts _ (List.mem_of_getElem? (i := 3) rfl)
  have q4 := hts _ (List.mem_of_getElem? (i := 4) rfl)
  unfold wX2_step at hq
  refine lv_aload_n hx hb dX2_step_0 rfl (lv_at hl 0 rfl) ?_
  refine lv_iload_n hx hb dX2_step_1 rfl (lv_at hl 1 rfl) ?_
  refine z_cvi ⟨hx, hb, hml, hown, hts⟩ hw h_o0 (kX2_isEased h_o0 hq) (by decide) rfl (cwV 1 hts gX2_step_X2_isEased rfl rfl rfl (by decide +kernel) ⟨Nat.le_of_ble_eq_true rfl, Nat.le_of_ble_eq_true rfl⟩) rfl hl.1 rfl (Nat.le_of_ble_eq_true rfl) dX2_step_2 ⟨Nat.zero_le _, Nat.zero_le _⟩ (fun r4 M0 J0 H locs hq hw => ?_)
  obtain ⟨hq, rfl, rfl⟩ := hq
  refine lv_if_eq (tgt := 12) hx hb dX2_step_5 (by decide) (fun hc => ?_) (fun hc => ?_)
  · have hq := hq.1 hc
    refine lv_aload_n hx hb dX2_step_12 rfl (lv_at hl 0 rfl) ?_
    refine lv_iload_n hx hb dX2_step_13 rfl (lv_at hl 1 rfl) ?_
    refine z_cvi ⟨hx, hb, hml, hown, hts⟩ hw h_o0 (kX2_now h_o0 hq) (by decide) rfl (cwV 1 hts gX2_step_X2_now rfl rfl rfl (by decide +kernel) ⟨Nat.le_of_ble_eq_true rfl, Nat.le_of_ble_eq_true rfl⟩) rfl hl.1 rfl (Nat.le_of_ble_eq_true rfl) dX2_step_14 ⟨Nat.zero_le _, Nat.zero_le _⟩ (fun r5 M0 J0 H locs hq hw => ?_)
    obtain ⟨hq, rfl, rfl⟩ := hq
    refine lv_aload_n hx hb dX2_step_17 rfl (lv_at hl 0 rfl) ?_
    refine lv_iload_n hx hb dX2_step_18 rfl (lv_at hl 1 rfl) ?_
    refine lv_iconst (v := (1 : Int32)) hx hb dX2_step_19 (by decide) ?_
    refine lv_iadd hx hb dX2_step_20 ?_
    refine z_cvi ⟨hx, hb, hml, hown, hts⟩ hw h_o0 (kX2_now h_o0 hq) (by decide) rfl (cwV 1 hts gX2_step_X2_now rfl rfl rfl (by decide +kernel) ⟨Nat.le_of_ble_eq_true rfl, Nat.le_of_ble_eq_true rfl⟩) rfl hl.1 rfl (Nat.le_of_ble_eq_true rfl) dX2_step_21 ⟨Nat.zero_le _, Nat.zero_le _⟩ (fun r6 M0 J0 H locs hq hw => ?_)
    obtain ⟨hq, rfl, rfl⟩ := hq
    refine lv_isub hx hb dX2_step_24 ?_
    refine va_mabs hx hb (hml.trans hl.1.symm) hown q1 q2 q3 q4 (Nat.le_of_ble_eq_true rfl) (Nat.le_of_ble_eq_true rfl) (Nat.zero_le _) (Nat.zero_le _) dX2_step_25 ?_
    exact z_iret hQE hx hb hr hlk hw dX2_step_28 ⟨hq, rfl, rfl⟩
  · have hq := hq.2 hc
    refine lv_iconst (v := (0 : Int32)) hx hb dX2_step_8 (by decide) ?_
    refine lv_goto (tgt := 28) hx hb dX2_step_9 (by decide) ?_
    exact z_iret hQE hx hb hr hlk hw dX2_step_28 ⟨hq, rfl, rfl⟩
set_option maxRecDepth 20000 in
theorem ggX2_worst_X2_step : GoodIn wsX2_worst wsX2_step := goodIn_r _ [10, 11, 12, 4, 13, 14, 15, 16, 9, 17, 1, 18, 19, 20, 21, 22, 23, 24, 25, 26, 27, 28, 29, 30, 31, 32, 33, 34] (by decide +kernel) (by decide +kernel)
set_option maxRecDepth 20000 in
theorem gX2_worst_X2_step : GoodIn wsX2_worst (wsV RX2 60 RX2 yX2_step wsX2_step) := goodIn_app (goodIn_of _ (by decide +kernel)) ggX2_worst_X2_step
theorem dX2_worst_0 : decode cX2_worst 0 = .ok (.iconst 0, 1) := by decide +kernel
theorem dX2_worst_1 : decode cX2_worst 1 = .ok (.istore_n 1, 1) := by decide +kernel
theorem dX2_worst_2 : decode cX2_worst 2 = .ok (.iconst 0, 1) := by decide +kernel
theorem dX2_worst_3 : decode cX2_worst 3 = .ok (.istore_n 2, 1) := by decide +kernel
theorem dX2_worst_4 : decode cX2_worst 4 = .ok (.iload_n 2, 1) := by decide +kernel
theorem dX2_worst_5 : decode cX2_worst 5 = .ok (.aload_n 0, 1) := by decide +kernel
theorem dX2_worst_6 : decode cX2_worst 6 = .ok (.getfield 9, 3) := by decide +kernel
theorem dX2_worst_9 : decode cX2_worst 9 = .ok (.iconst 1, 1) := by decide +kernel
theorem dX2_worst_10 : decode cX2_worst 10 = .ok (.isub, 1) := by decide +kernel
theorem dX2_worst_11 : decode cX2_worst 11 = .ok (.if_icmp .ge 19, 3) := by decide +kernel
theorem dX2_worst_14 : decode cX2_worst 14 = .ok (.iload_n 1, 1) := by decide +kernel
theorem dX2_worst_15 : decode cX2_worst 15 = .ok (.aload_n 0, 1) := by decide +kernel
theorem dX2_worst_16 : decode cX2_worst 16 = .ok (.iload_n 2, 1) := by decide +kernel
theorem dX2_worst_17 : decode cX2_worst 17 = .ok (.invokevirtual 60, 3) := by decide +kernel
theorem dX2_worst_20 : decode cX2_worst 20 = .ok (.invokestatic 37, 3) := by decide +kernel
theorem dX2_worst_23 : decode cX2_worst 23 = .ok (.istore_n 1, 1) := by decide +kernel
theorem dX2_worst_24 : decode cX2_worst 24 = .ok (.iinc 2 1, 3) := by decide +kernel
theorem dX2_worst_27 : decode cX2_worst 27 = .ok (.goto (-23), 3) := by decide +kernel
theorem dX2_worst_30 : decode cX2_worst 30 = .ok (.iload_n 1, 1) := by decide +kernel
theorem dX2_worst_31 : decode cX2_worst 31 = .ok (.ireturn, 1) := by decide +kernel
def rmX2_worst : Room := { frames := 3, cells := 0, slots := 0, locals := 63 }
def lpX2_worst_4 (M : zM) (o0 : Nat) (Q : Int32 → Prop) : Nat → Int32 → Int32 → Prop
  | 0, _, _ => False
  | fu4 + 1, x3, x4 =>
    ((((M o0 0) - (1 : Int32)) ≤ x4) → (
    Q x3)) ∧
    ((¬ ((M o0 0) - (1 : Int32)) ≤ x4) → (
    wX2_step M o0 x4 (fun r5 =>
    ∀ x6 : Int32, x6 = x4 + (1 : Int32) →
    lpX2_worst_4 M o0 Q fu4 (zmax x3 r5) x6)))
def wX2_worst (M : zM) (o0 : Nat) (Q : Int32 → Prop) : Prop :=
    ∃ fu4 : Nat, lpX2_worst_4 M o0 Q fu4 (0 : Int32) (0 : Int32)
set_option maxHeartbeats 4000000 in
set_option maxRecDepth 100000 in
theorem kX2_worst {l : Launch} {D : va_G} {Y : zY} {ad kd : Nat → Nat} {RL : List Nat} {M : zM} {J : zL} {o0 : Nat} (h_o0 : kd o0 = 2) {Q : Int32 → Prop} (hq : wX2_worst M o0 Q) : zCi l yX2_worst wsX2_worst rmX2_worst [.ref (ad o0)] D Y ad kd RL M J (fun r M' J' => Q r ∧ M = M' ∧ J = J') := by
  refine z_meti (cc := cX2_worst) (maxL := 3) (ret := (some .int)) (by decide) rfl (Nat.le_of_ble_eq_true rfl) ?_
  intro p e s m below meth c ls A ar QE hQE hx hb hr hml hown hts hlk hw hl
  have hown : s.vm.findClass RX2 = some m.cls := hown
  have hl : lv_has ls 3 [(0, .ref (ad o0))] := hl
  have hC := hw.2.2.2.2.2.1
  have g2 : ∀ w ∈ wsX20, w.before ar s = true := (fun w h => hts w (List.mem_cons_of_mem _ (List.mem_append_right _ h)))
  have q1 := hts _ (List.mem_of_getElem? (i := 1) rfl)
  have q2 := hts _ (List.mem_of_getElem? (i := 2) rfl)
  have q3 := hts _ (List.mem_of_getElem? (i := 3) rfl)
  have q4 := hts _ (List.mem_of_getElem? (i := 4) rfl)
  have q5 := hts _ (List.mem_of_getElem? (i := 5) rfl)
  unfold wX2_worst at hq
  refine lv_iconst (v := (0 : Int32)) hx hb dX2_worst_0 (by decide) ?_
  refine lv_istore_n (lv' := [(1, .int (0 : Int32)), (0, .ref (ad o0))]) hx hb dX2_worst_1 rfl hl (by decide) rfl (fun ls hl => ?_)
  refine lv_iconst (v := (0 : Int32)) hx hb dX2_worst_2 (by decide) ?_
  refine lv_istore_n (lv' := [(2, .int (0 : Int32)), (1, .int (0 : Int32)), (0, .ref (ad o0))]) hx hb dX2_worst_3 rfl hl (by decide) rfl (fun ls hl => ?_)
  obtain ⟨fu4, hq⟩ := hq
  have lp4 : ∀ (fu4 : Nat) (x3 : Int32) (x4 : Int32) (H : Heap) (locs : List Loc) (ls : Array Slot), lpX2_worst_4 M o0 Q fu4 x3 x4 → zH D Y ad kd RL M J A s.heap H locs s → lv_has ls 3 [(0, .ref (ad o0)), (1, .int x3), (2, .int x4)] → W p l e rmX2_worst s m ar below meth c H locs 0 0 QE (F0 m 4 ls []) := by
    intro fu4
    induction fu4 with
    | zero => intro x3 x4 H locs ls hq; exact hq.elim
    | succ fu4 ih4 =>
      intro x3 x4 H locs ls hq hw hl
      unfold lpX2_worst_4 at hq
      refine lv_iload_n hx hb dX2_worst_4 rfl (lv_at hl 2 rfl) ?_
      refine lv_aload_n hx hb dX2_worst_5 rfl (lv_at hl 0 rfl) ?_
      refine zg2_pegs hx hb g2 hown hw h_o0 q1 dX2_worst_6 ?_
      refine lv_iconst (v := (1 : Int32)) hx hb dX2_worst_9 (by decide) ?_
      refine lv_isub hx hb dX2_worst_10 ?_
      refine lv_icmp_ge (tgt := 30) hx hb dX2_worst_11 (by decide) (fun hc => ?_) (fun hc => ?_)
      · have hq := hq.1 hc
        refine lv_iload_n hx hb dX2_worst_30 rfl (lv_at hl 1 rfl) ?_
        exact z_iret hQE hx hb hr hlk hw dX2_worst_31 ⟨hq, rfl, rfl⟩
      · have hq := hq.2 hc
        refine lv_iload_n hx hb dX2_worst_14 rfl (lv_at hl 1 rfl) ?_
        refine lv_aload_n hx hb dX2_worst_15 rfl (lv_at hl 0 rfl) ?_
        refine lv_iload_n hx hb dX2_worst_16 rfl (lv_at hl 2 rfl) ?_
        refine z_cvi ⟨hx, hb, hml, hown, hts⟩ hw h_o0 (kX2_step h_o0 hq) (by decide) rfl (cwV 1 hts gX2_worst_X2_step rfl rfl rfl (by decide +kernel) ⟨Nat.le_of_ble_eq_true rfl, Nat.le_of_ble_eq_true rfl⟩) rfl hl.1 rfl (Nat.le_of_ble_eq_true rfl) dX2_worst_17 ⟨Nat.zero_le _, Nat.zero_le _⟩ (fun r5 M0 J0 H locs hq hw => ?_)
        obtain ⟨hq, rfl, rfl⟩ := hq
        refine va_mmax hx hb (hml.trans hl.1.symm) hown q2 q3 q4 q5 (Nat.le_of_ble_eq_true rfl) (Nat.le_of_ble_eq_true rfl) (Nat.zero_le _) (Nat.zero_le _) dX2_worst_20 ?_
        refine lv_istore_n (lv' := [(1, .int (zmax x3 r5)), (0, .ref (ad o0)), (2, .int x4)]) hx hb dX2_worst_23 rfl hl (by decide) rfl (fun ls hl => ?_)
        obtain ⟨x6, e_x6⟩ : ∃ y : Int32, y = x4 + (1 : Int32) := ⟨_, rfl⟩
        have hq := hq x6 e_x6
        refine lv_iinc (v := x6) (lv' := [(2, .int x6), (1, .int (zmax x3 r5)), (0, .ref (ad o0))]) hx hb dX2_worst_24 hl (k := 2) rfl (by rw [e_x6]; rfl) (by decide) rfl (fun ls hl => ?_)
        refine lv_goto (tgt := 4) hx hb dX2_worst_27 (by decide) ?_
        exact ih4 (zmax x3 r5) x6 _ _ _ hq hw (lv_sub hl [2, 1, 0] rfl)
  exact lp4 fu4 (0 : Int32) (0 : Int32) _ _ _ hq hw (lv_sub hl [2, 1, 0] rfl)
set_option maxRecDepth 20000 in
theorem ggX2_uneven_X2_step : GoodIn wsX2_uneven wsX2_step := goodIn_r _ [6, 7, 8, 9, 10, 11, 12, 13, 5, 14, 1, 15, 16, 17, 18, 19, 20, 21, 22, 23, 24, 25, 26, 27, 28, 29, 30, 31] (by decide +kernel) (by decide +kernel)
set_option maxRecDepth 20000 in
theorem gX2_uneven_X2_step : GoodIn wsX2_uneven (wsV RX2 60 RX2 yX2_step wsX2_step) := goodIn_app (goodIn_of _ (by decide +kernel)) ggX2_uneven_X2_step
theorem dX2_uneven_0 : decode cX2_uneven 0 = .ok (.iconst 0, 1) := by decide +kernel
theorem dX2_uneven_1 : decode cX2_uneven 1 = .ok (.istore_n 1, 1) := by decide +kernel
theorem dX2_uneven_2 : decode cX2_uneven 2 = .ok (.iconst 0, 1) := by decide +kernel
theorem dX2_uneven_3 : decode cX2_uneven 3 = .ok (.istore_n 2, 1) := by decide +kernel
theorem dX2_uneven_4 : decode cX2_uneven 4 = .ok (.iload_n 2, 1) := by decide +kernel
theorem dX2_uneven_5 : decode cX2_uneven 5 = .ok (.aload_n 0, 1) := by decide +kernel
theorem dX2_uneven_6 : decode cX2_uneven 6 = .ok (.getfield 9, 3) := by decide +kernel
theorem dX2_uneven_9 : decode cX2_uneven 9 = .ok (.iconst 1, 1) := by decide +kernel
theorem dX2_uneven_10 : decode cX2_uneven 10 = .ok (.isub, 1) := by decide +kernel
theorem dX2_uneven_11 : decode cX2_uneven 11 = .ok (.if_icmp .ge 17, 3) := by decide +kernel
theorem dX2_uneven_14 : decode cX2_uneven 14 = .ok (.iload_n 1, 1) := by decide +kernel
theorem dX2_uneven_15 : decode cX2_uneven 15 = .ok (.aload_n 0, 1) := by decide +kernel
theorem dX2_uneven_16 : decode cX2_uneven 16 = .ok (.iload_n 2, 1) := by decide +kernel
theorem dX2_uneven_17 : decode cX2_uneven 17 = .ok (.invokevirtual 60, 3) := by decide +kernel
theorem dX2_uneven_20 : decode cX2_uneven 20 = .ok (.iadd, 1) := by decide +kernel
theorem dX2_uneven_21 : decode cX2_uneven 21 = .ok (.istore_n 1, 1) := by decide +kernel
theorem dX2_uneven_22 : decode cX2_uneven 22 = .ok (.iinc 2 1, 3) := by decide +kernel
theorem dX2_uneven_25 : decode cX2_uneven 25 = .ok (.goto (-21), 3) := by decide +kernel
theorem dX2_uneven_28 : decode cX2_uneven 28 = .ok (.iload_n 1, 1) := by decide +kernel
theorem dX2_uneven_29 : decode cX2_uneven 29 = .ok (.ireturn, 1) := by decide +kernel
def rmX2_uneven : Room := { frames := 3, cells := 0, slots := 0, locals := 63 }
def lpX2_uneven_4 (M : zM) (o0 : Nat) (Q : Int32 → Prop) : Nat → Int32 → Int32 → Prop
  | 0, _, _ => False
  | fu4 + 1, x3, x4 =>
    ((((M o0 0) - (1 : Int32)) ≤ x4) → (
    Q x3)) ∧
    ((¬ ((M o0 0) - (1 : Int32)) ≤ x4) → (
    wX2_step M o0 x4 (fun r5 =>
    ∀ x6 : Int32, x6 = x4 + (1 : Int32) →
    lpX2_uneven_4 M o0 Q fu4 (x3 + r5) x6)))
def wX2_uneven (M : zM) (o0 : Nat) (Q : Int32 → Prop) : Prop :=
    ∃ fu4 : Nat, lpX2_uneven_4 M o0 Q fu4 (0 : Int32) (0 : Int32)
set_option maxHeartbeats 4000000 in
set_option maxRecDepth 100000 in
theorem kX2_uneven {l : Launch} {D : va_G} {Y : zY} {ad kd : Nat → Nat} {RL : List Nat} {M : zM} {J : zL} {o0 : Nat} (h_o0 : kd o0 = 2) {Q : Int32 → Prop} (hq : wX2_uneven M o0 Q) : zCi l yX2_uneven wsX2_uneven rmX2_uneven [.ref (ad o0)] D Y ad kd RL M J (fun r M' J' => Q r ∧ M = M' ∧ J = J') := by
  refine z_meti (cc := cX2_uneven) (maxL := 3) (ret := (some .int)) (by decide) rfl (Nat.le_of_ble_eq_true rfl) ?_
  intro p e s m below meth c ls A ar QE hQE hx hb hr hml hown hts hlk hw hl
  have hown : s.vm.findClass RX2 = some m.cls := hown
  have hl : lv_has ls 3 [(0, .ref (ad o0))] := hl
  have hC := hw.2.2.2.2.2.1
  have g2 : ∀ w ∈ wsX20, w.before ar s = true := (fun w h => hts w (List.mem_cons_of_mem _ (List.mem_append_right _ h)))
  have q1 := hts _ (List.mem_of_getElem? (i := 1) rfl)
  unfold wX2_uneven at hq
  refine lv_iconst (v := (0 : Int32)) hx hb dX2_uneven_0 (by decide) ?_
  refine lv_istore_n (lv' := [(1, .int (0 : Int32)), (0, .ref (ad o0))]) hx hb dX2_uneven_1 rfl hl (by decide) rfl (fun ls hl => ?_)
  refine lv_iconst (v := (0 : Int32)) hx hb dX2_uneven_2 (by decide) ?_
  refine lv_istore_n (lv' := [(2, .int (0 : Int32)), (1, .int (0 : Int32)), (0, .ref (ad o0))]) hx hb dX2_uneven_3 rfl hl (by decide) rfl (fun ls hl => ?_)
  obtain ⟨fu4, hq⟩ := hq
  have lp4 : ∀ (fu4 : Nat) (x3 : Int32) (x4 : Int32) (H : Heap) (locs : List Loc) (ls : Array Slot), lpX2_uneven_4 M o0 Q fu4 x3 x4 → zH D Y ad kd RL M J A s.heap H locs s → lv_has ls 3 [(0, .ref (ad o0)), (1, .int x3), (2, .int x4)] → W p l e rmX2_uneven s m ar below meth c H locs 0 0 QE (F0 m 4 ls []) := by
    intro fu4
    induction fu4 with
    | zero => intro x3 x4 H locs ls hq; exact hq.elim
    | succ fu4 ih4 =>
      intro x3 x4 H locs ls hq hw hl
      unfold lpX2_uneven_4 at hq
      refine lv_iload_n hx hb dX2_uneven_4 rfl (lv_at hl 2 rfl) ?_
      refine lv_aload_n hx hb dX2_uneven_5 rfl (lv_at hl 0 rfl) ?_
      refine zg2_pegs hx hb g2 hown hw h_o0 q1 dX2_uneven_6 ?_
      refine lv_iconst (v := (1 : Int32)) hx hb dX2_uneven_9 (by decide) ?_
      refine lv_isub hx hb dX2_uneven_10 ?_
      refine lv_icmp_ge (tgt := 28) hx hb dX2_uneven_11 (by decide) (fun hc => ?_) (fun hc => ?_)
      · have hq := hq.1 hc
        refine lv_iload_n hx hb dX2_uneven_28 rfl (lv_at hl 1 rfl) ?_
        exact z_iret hQE hx hb hr hlk hw dX2_uneven_29 ⟨hq, rfl, rfl⟩
      · have hq := hq.2 hc
        refine lv_iload_n hx hb dX2_uneven_14 rfl (lv_at hl 1 rfl) ?_
        refine lv_aload_n hx hb dX2_uneven_15 rfl (lv_at hl 0 rfl) ?_
        refine lv_iload_n hx hb dX2_uneven_16 rfl (lv_at hl 2 rfl) ?_
        refine z_cvi ⟨hx, hb, hml, hown, hts⟩ hw h_o0 (kX2_step h_o0 hq) (by decide) rfl (cwV 1 hts gX2_uneven_X2_step rfl rfl rfl (by decide +kernel) ⟨Nat.le_of_ble_eq_true rfl, Nat.le_of_ble_eq_true rfl⟩) rfl hl.1 rfl (Nat.le_of_ble_eq_true rfl) dX2_uneven_17 ⟨Nat.zero_le _, Nat.zero_le _⟩ (fun r5 M0 J0 H locs hq hw => ?_)
        obtain ⟨hq, rfl, rfl⟩ := hq
        refine lv_iadd hx hb dX2_uneven_20 ?_
        refine lv_istore_n (lv' := [(1, .int (x3 + r5)), (0, .ref (ad o0)), (2, .int x4)]) hx hb dX2_uneven_21 rfl hl (by decide) rfl (fun ls hl => ?_)
        obtain ⟨x6, e_x6⟩ : ∃ y : Int32, y = x4 + (1 : Int32) := ⟨_, rfl⟩
        have hq := hq x6 e_x6
        refine lv_iinc (v := x6) (lv' := [(2, .int x6), (1, .int (x3 + r5)), (0, .ref (ad o0))]) hx hb dX2_uneven_22 hl (k := 2) rfl (by rw [e_x6]; rfl) (by decide) rfl (fun ls hl => ?_)
        refine lv_goto (tgt := 4) hx hb dX2_uneven_25 (by decide) ?_
        exact ih4 (x3 + r5) x6 _ _ _ hq hw (lv_sub hl [2, 1, 0] rfl)
  exact lp4 fu4 (0 : Int32) (0 : Int32) _ _ _ hq hw (lv_sub hl [2, 1, 0] rfl)
set_option maxRecDepth 20000 in
theorem ggX2_allNow_X2_now : GoodIn wsX2_allNow wsX2_now := goodIn_r _ [6, 7, 8, 9, 10, 11, 5, 12, 1, 13, 14, 15, 16, 17, 18] (by decide +kernel) (by decide +kernel)
set_option maxRecDepth 20000 in
theorem gX2_allNow_X2_now : GoodIn wsX2_allNow (wsV RX2 54 RX2 yX2_now wsX2_now) := goodIn_app (goodIn_of _ (by decide +kernel)) ggX2_allNow_X2_now
theorem dX2_allNow_0 : decode cX2_allNow 0 = .ok (.iconst 0, 1) := by decide +kernel
theorem dX2_allNow_1 : decode cX2_allNow 1 = .ok (.istore_n 1, 1) := by decide +kernel
theorem dX2_allNow_2 : decode cX2_allNow 2 = .ok (.iconst 0, 1) := by decide +kernel
theorem dX2_allNow_3 : decode cX2_allNow 3 = .ok (.istore_n 2, 1) := by decide +kernel
theorem dX2_allNow_4 : decode cX2_allNow 4 = .ok (.iload_n 2, 1) := by decide +kernel
theorem dX2_allNow_5 : decode cX2_allNow 5 = .ok (.aload_n 0, 1) := by decide +kernel
theorem dX2_allNow_6 : decode cX2_allNow 6 = .ok (.getfield 9, 3) := by decide +kernel
theorem dX2_allNow_9 : decode cX2_allNow 9 = .ok (.if_icmp .ge 17, 3) := by decide +kernel
theorem dX2_allNow_12 : decode cX2_allNow 12 = .ok (.iload_n 1, 1) := by decide +kernel
theorem dX2_allNow_13 : decode cX2_allNow 13 = .ok (.aload_n 0, 1) := by decide +kernel
theorem dX2_allNow_14 : decode cX2_allNow 14 = .ok (.iload_n 2, 1) := by decide +kernel
theorem dX2_allNow_15 : decode cX2_allNow 15 = .ok (.invokevirtual 54, 3) := by decide +kernel
theorem dX2_allNow_18 : decode cX2_allNow 18 = .ok (.iadd, 1) := by decide +kernel
theorem dX2_allNow_19 : decode cX2_allNow 19 = .ok (.istore_n 1, 1) := by decide +kernel
theorem dX2_allNow_20 : decode cX2_allNow 20 = .ok (.iinc 2 1, 3) := by decide +kernel
theorem dX2_allNow_23 : decode cX2_allNow 23 = .ok (.goto (-19), 3) := by decide +kernel
theorem dX2_allNow_26 : decode cX2_allNow 26 = .ok (.iload_n 1, 1) := by decide +kernel
theorem dX2_allNow_27 : decode cX2_allNow 27 = .ok (.ireturn, 1) := by decide +kernel
def rmX2_allNow : Room := { frames := 2, cells := 0, slots := 0, locals := 42 }
def lpX2_allNow_4 (M : zM) (o0 : Nat) (Q : Int32 → Prop) : Nat → Int32 → Int32 → Prop
  | 0, _, _ => False
  | fu4 + 1, x3, x4 =>
    (((M o0 0) ≤ x4) → (
    Q x3)) ∧
    ((¬ (M o0 0) ≤ x4) → (
    wX2_now M o0 x4 (fun r5 =>
    ∀ x6 : Int32, x6 = x4 + (1 : Int32) →
    lpX2_allNow_4 M o0 Q fu4 (x3 + r5) x6)))
def wX2_allNow (M : zM) (o0 : Nat) (Q : Int32 → Prop) : Prop :=
    ∃ fu4 : Nat, lpX2_allNow_4 M o0 Q fu4 (0 : Int32) (0 : Int32)
set_option maxHeartbeats 4000000 in
set_option maxRecDepth 100000 in
theorem kX2_allNow {l : Launch} {D : va_G} {Y : zY} {ad kd : Nat → Nat} {RL : List Nat} {M : zM} {J : zL} {o0 : Nat} (h_o0 : kd o0 = 2) {Q : Int32 → Prop} (hq : wX2_allNow M o0 Q) : zCi l yX2_allNow wsX2_allNow rmX2_allNow [.ref (ad o0)] D Y ad kd RL M J (fun r M' J' => Q r ∧ M = M' ∧ J = J') := by
  refine z_meti (cc := cX2_allNow) (maxL := 3) (ret := (some .int)) (by decide) rfl (Nat.le_of_ble_eq_true rfl) ?_
  intro p e s m below meth c ls A ar QE hQE hx hb hr hml hown hts hlk hw hl
  have hown : s.vm.findClass RX2 = some m.cls := hown
  have hl : lv_has ls 3 [(0, .ref (ad o0))] := hl
  have hC := hw.2.2.2.2.2.1
  have g2 : ∀ w ∈ wsX20, w.before ar s = true := (fun w h => hts w (List.mem_cons_of_mem _ (List.mem_append_right _ h)))
  have q1 := hts _ (List.mem_of_getElem? (i := 1) rfl)
  unfold wX2_allNow at hq
  refine lv_iconst (v := (0 : Int32)) hx hb dX2_allNow_0 (by decide) ?_
  refine lv_istore_n (lv' := [(1, .int (0 : Int32)), (0, .ref (ad o0))]) hx hb dX2_allNow_1 rfl hl (by decide) rfl (fun ls hl => ?_)
  refine lv_iconst (v := (0 : Int32)) hx hb dX2_allNow_2 (by decide) ?_
  refine lv_istore_n (lv' := [(2, .int (0 : Int32)), (1, .int (0 : Int32)), (0, .ref (ad o0))]) hx hb dX2_allNow_3 rfl hl (by decide) rfl (fun ls hl => ?_)
  obtain ⟨fu4, hq⟩ := hq
  have lp4 : ∀ (fu4 : Nat) (x3 : Int32) (x4 : Int32) (H : Heap) (locs : List Loc) (ls : Array Slot), lpX2_allNow_4 M o0 Q fu4 x3 x4 → zH D Y ad kd RL M J A s.heap H locs s → lv_has ls 3 [(0, .ref (ad o0)), (1, .int x3), (2, .int x4)] → W p l e rmX2_allNow s m ar below meth c H locs 0 0 QE (F0 m 4 ls []) := by
    intro fu4
    induction fu4 with
    | zero => intro x3 x4 H locs ls hq; exact hq.elim
    | succ fu4 ih4 =>
      intro x3 x4 H locs ls hq hw hl
      unfold lpX2_allNow_4 at hq
      refine lv_iload_n hx hb dX2_allNow_4 rfl (lv_at hl 2 rfl) ?_
      refine lv_aload_n hx hb dX2_allNow_5 rfl (lv_at hl 0 rfl) ?_
      refine zg2_pegs hx hb g2 hown hw h_o0 q1 dX2_allNow_6 ?_
      refine lv_icmp_ge (tgt := 26) hx hb dX2_allNow_9 (by decide) (fun hc => ?_) (fun hc => ?_)
      · have hq := hq.1 hc
        refine lv_iload_n hx hb dX2_allNow_26 rfl (lv_at hl 1 rfl) ?_
        exact z_iret hQE hx hb hr hlk hw dX2_allNow_27 ⟨hq, rfl, rfl⟩
      · have hq := hq.2 hc
        refine lv_iload_n hx hb dX2_allNow_12 rfl (lv_at hl 1 rfl) ?_
        refine lv_aload_n hx hb dX2_allNow_13 rfl (lv_at hl 0 rfl) ?_
        refine lv_iload_n hx hb dX2_allNow_14 rfl (lv_at hl 2 rfl) ?_
        refine z_cvi ⟨hx, hb, hml, hown, hts⟩ hw h_o0 (kX2_now h_o0 hq) (by decide) rfl (cwV 1 hts gX2_allNow_X2_now rfl rfl rfl (by decide +kernel) ⟨Nat.le_of_ble_eq_true rfl, Nat.le_of_ble_eq_true rfl⟩) rfl hl.1 rfl (Nat.le_of_ble_eq_true rfl) dX2_allNow_15 ⟨Nat.zero_le _, Nat.zero_le _⟩ (fun r5 M0 J0 H locs hq hw => ?_)
        obtain ⟨hq, rfl, rfl⟩ := hq
        refine lv_iadd hx hb dX2_allNow_18 ?_
        refine lv_istore_n (lv' := [(1, .int (x3 + r5)), (0, .ref (ad o0)), (2, .int x4)]) hx hb dX2_allNow_19 rfl hl (by decide) rfl (fun ls hl => ?_)
        obtain ⟨x6, e_x6⟩ : ∃ y : Int32, y = x4 + (1 : Int32) := ⟨_, rfl⟩
        have hq := hq x6 e_x6
        refine lv_iinc (v := x6) (lv' := [(2, .int x6), (1, .int (x3 + r5)), (0, .ref (ad o0))]) hx hb dX2_allNow_20 hl (k := 2) rfl (by rw [e_x6]; rfl) (by decide) rfl (fun ls hl => ?_)
        refine lv_goto (tgt := 4) hx hb dX2_allNow_23 (by decide) ?_
        exact ih4 (x3 + r5) x6 _ _ _ hq hw (lv_sub hl [2, 1, 0] rfl)
  exact lp4 fu4 (0 : Int32) (0 : Int32) _ _ _ hq hw (lv_sub hl [2, 1, 0] rfl)
theorem dX2_allSlews_0 : decode cX2_allSlews 0 = .ok (.iconst 0, 1) := by decide +kernel
theorem dX2_allSlews_1 : decode cX2_allSlews 1 = .ok (.istore_n 1, 1) := by decide +kernel
theorem dX2_allSlews_2 : decode cX2_allSlews 2 = .ok (.iconst 0, 1) := by decide +kernel
theorem dX2_allSlews_3 : decode cX2_allSlews 3 = .ok (.istore_n 2, 1) := by decide +kernel
theorem dX2_allSlews_4 : decode cX2_allSlews 4 = .ok (.iload_n 2, 1) := by decide +kernel
theorem dX2_allSlews_5 : decode cX2_allSlews 5 = .ok (.aload_n 0, 1) := by decide +kernel
theorem dX2_allSlews_6 : decode cX2_allSlews 6 = .ok (.getfield 9, 3) := by decide +kernel
theorem dX2_allSlews_9 : decode cX2_allSlews 9 = .ok (.if_icmp .ge 18, 3) := by decide +kernel
theorem dX2_allSlews_12 : decode cX2_allSlews 12 = .ok (.iload_n 1, 1) := by decide +kernel
theorem dX2_allSlews_13 : decode cX2_allSlews 13 = .ok (.aload_n 0, 1) := by decide +kernel
theorem dX2_allSlews_14 : decode cX2_allSlews 14 = .ok (.getfield 28, 3) := by decide +kernel
theorem dX2_allSlews_17 : decode cX2_allSlews 17 = .ok (.iload_n 2, 1) := by decide +kernel
theorem dX2_allSlews_18 : decode cX2_allSlews 18 = .ok (.iaload, 1) := by decide +kernel
theorem dX2_allSlews_19 : decode cX2_allSlews 19 = .ok (.iadd, 1) := by decide +kernel
theorem dX2_allSlews_20 : decode cX2_allSlews 20 = .ok (.istore_n 1, 1) := by decide +kernel
theorem dX2_allSlews_21 : decode cX2_allSlews 21 = .ok (.iinc 2 1, 3) := by decide +kernel
theorem dX2_allSlews_24 : decode cX2_allSlews 24 = .ok (.goto (-20), 3) := by decide +kernel
theorem dX2_allSlews_27 : decode cX2_allSlews 27 = .ok (.iload_n 1, 1) := by decide +kernel
theorem dX2_allSlews_28 : decode cX2_allSlews 28 = .ok (.ireturn, 1) := by decide +kernel
def rmX2_allSlews : Room := { frames := 0, cells := 0, slots := 0, locals := 0 }
def lpX2_allSlews_4 (M : zM) (o0 : Nat) (Q : Int32 → Prop) : Nat → Int32 → Int32 → Prop
  | 0, _, _ => False
  | fu4 + 1, x3, x4 =>
    (((M o0 0) ≤ x4) → (
    Q x3)) ∧
    ((¬ (M o0 0) ≤ x4) → (
    vp_in x4 12 ∧
    ∀ x5 : Int32, x5 = x4 + (1 : Int32) →
    lpX2_allSlews_4 M o0 Q fu4 (x3 + (M (o0 + 4) x4.toNatClampNeg)) x5))
def wX2_allSlews (M : zM) (o0 : Nat) (Q : Int32 → Prop) : Prop :=
    ∃ fu4 : Nat, lpX2_allSlews_4 M o0 Q fu4 (0 : Int32) (0 : Int32)
set_option maxHeartbeats 4000000 in
set_option maxRecDepth 100000 in
theorem kX2_allSlews {l : Launch} {D : va_G} {Y : zY} {ad kd : Nat → Nat} {RL : List Nat} {M : zM} {J : zL} {o0 : Nat} (h_o0 : kd o0 = 2) {Q : Int32 → Prop} (hq : wX2_allSlews M o0 Q) : zCi l yX2_allSlews wsX2_allSlews rmX2_allSlews [.ref (ad o0)] D Y ad kd RL M J (fun r M' J' => Q r ∧ M = M' ∧ J = J') := by
  refine z_meti (cc := cX2_allSlews) (maxL := 3) (ret := (some .int)) (by decide) rfl (Nat.le_of_ble_eq_true rfl) ?_
  intro p e s m below meth c ls A ar QE hQE hx hb hr hml hown hts hlk hw hl
  have hown : s.vm.findClass RX2 = some m.cls := hown
  have hl : lv_has ls 3 [(0, .ref (ad o0))] := hl
  have hC := hw.2.2.2.2.2.1
  have g2 : ∀ w ∈ wsX20, w.before ar s = true := (fun w h => hts w (List.mem_cons_of_mem _ (List.mem_append_right _ h)))
  have q1 := hts _ (List.mem_of_getElem? (i := 1) rfl)
  have q2 := hts _ (List.mem_of_getElem? (i := 2) rfl)
  unfold wX2_allSlews at hq
  refine lv_iconst (v := (0 : Int32)) hx hb dX2_allSlews_0 (by decide) ?_
  refine lv_istore_n (lv' := [(1, .int (0 : Int32)), (0, .ref (ad o0))]) hx hb dX2_allSlews_1 rfl hl (by decide) rfl (fun ls hl => ?_)
  refine lv_iconst (v := (0 : Int32)) hx hb dX2_allSlews_2 (by decide) ?_
  refine lv_istore_n (lv' := [(2, .int (0 : Int32)), (1, .int (0 : Int32)), (0, .ref (ad o0))]) hx hb dX2_allSlews_3 rfl hl (by decide) rfl (fun ls hl => ?_)
  obtain ⟨fu4, hq⟩ := hq
  have lp4 : ∀ (fu4 : Nat) (x3 : Int32) (x4 : Int32) (H : Heap) (locs : List Loc) (ls : Array Slot), lpX2_allSlews_4 M o0 Q fu4 x3 x4 → zH D Y ad kd RL M J A s.heap H locs s → lv_has ls 3 [(0, .ref (ad o0)), (1, .int x3), (2, .int x4)] → W p l e rmX2_allSlews s m ar below meth c H locs 0 0 QE (F0 m 4 ls []) := by
    intro fu4
    induction fu4 with
    | zero => intro x3 x4 H locs ls hq; exact hq.elim
    | succ fu4 ih4 =>
      intro x3 x4 H locs ls hq hw hl
      unfold lpX2_allSlews_4 at hq
      refine lv_iload_n hx hb dX2_allSlews_4 rfl (lv_at hl 2 rfl) ?_
      refine lv_aload_n hx hb dX2_allSlews_5 rfl (lv_at hl 0 rfl) ?_
      refine zg2_pegs hx hb g2 hown hw h_o0 q1 dX2_allSlews_6 ?_
      refine lv_icmp_ge (tgt := 27) hx hb dX2_allSlews_9 (by decide) (fun hc => ?_) (fun hc => ?_)
      · have hq := hq.1 hc
        refine lv_iload_n hx hb dX2_allSlews_27 rfl (lv_at hl 1 rfl) ?_
        exact z_iret hQE hx hb hr hlk hw dX2_allSlews_28 ⟨hq, rfl, rfl⟩
      · have hq := hq.2 hc
        refine lv_iload_n hx hb dX2_allSlews_12 rfl (lv_at hl 1 rfl) ?_
        refine lv_aload_n hx hb dX2_allSlews_13 rfl (lv_at hl 0 rfl) ?_
        refine zg2_slews hx hb g2 hown hw h_o0 q2 dX2_allSlews_14 ?_
        refine lv_iload_n hx hb dX2_allSlews_17 rfl (lv_at hl 2 rfl) ?_
        obtain ⟨hi, hq⟩ := hq
        refine z_iald (n := 12) hx hb hw (zk_2_4 hC h_o0) hi dX2_allSlews_18 ?_
        refine lv_iadd hx hb dX2_allSlews_19 ?_
        refine lv_istore_n (lv' := [(1, .int (x3 + (M (o0 + 4) x4.toNatClampNeg))), (0, .ref (ad o0)), (2, .int x4)]) hx hb dX2_allSlews_20 rfl hl (by decide) rfl (fun ls hl => ?_)
        obtain ⟨x5, e_x5⟩ : ∃ y : Int32, y = x4 + (1 : Int32) := ⟨_, rfl⟩
        have hq := hq x5 e_x5
        refine lv_iinc (v := x5) (lv' := [(2, .int x5), (1, .int (x3 + (M (o0 + 4) x4.toNatClampNeg))), (0, .ref (ad o0))]) hx hb dX2_allSlews_21 hl (k := 2) rfl (by rw [e_x5]; rfl) (by decide) rfl (fun ls hl => ?_)
        refine lv_goto (tgt := 4) hx hb dX2_allSlews_24 (by decide) ?_
        exact ih4 (x3 + (M (o0 + 4) x4.toNatClampNeg)) x5 _ _ _ hq hw (lv_sub hl [2, 1, 0] rfl)
  exact lp4 fu4 (0 : Int32) (0 : Int32) _ _ _ hq hw (lv_sub hl [2, 1, 0] rfl)
theorem dX2_moved_0 : decode cX2_moved 0 = .ok (.iconst 0, 1) := by decide +kernel
theorem dX2_moved_1 : decode cX2_moved 1 = .ok (.istore_n 1, 1) := by decide +kernel
theorem dX2_moved_2 : decode cX2_moved 2 = .ok (.iconst 0, 1) := by decide +kernel
theorem dX2_moved_3 : decode cX2_moved 3 = .ok (.istore_n 2, 1) := by decide +kernel
theorem dX2_moved_4 : decode cX2_moved 4 = .ok (.iload_n 2, 1) := by decide +kernel
theorem dX2_moved_5 : decode cX2_moved 5 = .ok (.aload_n 0, 1) := by decide +kernel
theorem dX2_moved_6 : decode cX2_moved 6 = .ok (.getfield 9, 3) := by decide +kernel
theorem dX2_moved_9 : decode cX2_moved 9 = .ok (.if_icmp .ge 21, 3) := by decide +kernel
theorem dX2_moved_12 : decode cX2_moved 12 = .ok (.iload_n 1, 1) := by decide +kernel
theorem dX2_moved_13 : decode cX2_moved 13 = .ok (.aload_n 0, 1) := by decide +kernel
theorem dX2_moved_14 : decode cX2_moved 14 = .ok (.getfield 28, 3) := by decide +kernel
theorem dX2_moved_17 : decode cX2_moved 17 = .ok (.iload_n 2, 1) := by decide +kernel
theorem dX2_moved_18 : decode cX2_moved 18 = .ok (.iaload, 1) := by decide +kernel
theorem dX2_moved_19 : decode cX2_moved 19 = .ok (.invokestatic 57, 3) := by decide +kernel
theorem dX2_moved_22 : decode cX2_moved 22 = .ok (.iadd, 1) := by decide +kernel
theorem dX2_moved_23 : decode cX2_moved 23 = .ok (.istore_n 1, 1) := by decide +kernel
theorem dX2_moved_24 : decode cX2_moved 24 = .ok (.iinc 2 1, 3) := by decide +kernel
theorem dX2_moved_27 : decode cX2_moved 27 = .ok (.goto (-23), 3) := by decide +kernel
theorem dX2_moved_30 : decode cX2_moved 30 = .ok (.iload_n 1, 1) := by decide +kernel
theorem dX2_moved_31 : decode cX2_moved 31 = .ok (.ireturn, 1) := by decide +kernel
def rmX2_moved : Room := { frames := 1, cells := 0, slots := 0, locals := 24 }
def lpX2_moved_4 (M : zM) (o0 : Nat) (Q : Int32 → Prop) : Nat → Int32 → Int32 → Prop
  | 0, _, _ => False
  | fu4 + 1, x3, x4 =>
    (((M o0 0) ≤ x4) → (
    Q x3)) ∧
    ((¬ (M o0 0) ≤ x4) → (
    vp_in x4 12 ∧
    ∀ x5 : Int32, x5 = x4 + (1 : Int32) →
    lpX2_moved_4 M o0 Q fu4 (x3 + (zabs (M (o0 + 4) x4.toNatClampNeg))) x5))
def wX2_moved (M : zM) (o0 : Nat) (Q : Int32 → Prop) : Prop :=
    ∃ fu4 : Nat, lpX2_moved_4 M o0 Q fu4 (0 : Int32) (0 : Int32)
set_option maxHeartbeats 4000000 in
set_option maxRecDepth 100000 in
theorem kX2_moved {l : Launch} {D : va_G} {Y : zY} {ad kd : Nat → Nat} {RL : List Nat} {M : zM} {J : zL} {o0 : Nat} (h_o0 : kd o0 = 2) {Q : Int32 → Prop} (hq : wX2_moved M o0 Q) : zCi l yX2_moved wsX2_moved rmX2_moved [.ref (ad o0)] D Y ad kd RL M J (fun r M' J' => Q r ∧ M = M' ∧ J = J') := by
  refine z_meti (cc := cX2_moved) (maxL := 3) (ret := (some .int)) (by decide) rfl (Nat.le_of_ble_eq_true rfl) ?_
  intro p e s m below meth c ls A ar QE hQE hx hb hr hml hown hts hlk hw hl
  have hown : s.vm.findClass RX2 = some m.cls := hown
  have hl : lv_has ls 3 [(0, .ref (ad o0))] := hl
  have hC := hw.2.2.2.2.2.1
  have g2 : ∀ w ∈ wsX20, w.before ar s = true := (fun w h => hts w (List.mem_cons_of_mem _ (List.mem_append_right _ h)))
  have q1 := hts _ (List.mem_of_getElem? (i := 1) rfl)
  have q2 := hts _ (List.mem_of_getElem? (i := 2) rfl)
  have q3 := hts _ (List.mem_of_getElem? (i := 3) rfl)
  have q4 := hts _ (List.mem_of_getElem? (i := 4) rfl)
  have q5 := hts _ (List.mem_of_getElem? (i := 5) rfl)
  have q6 := hts _ (List.mem_of_getElem? (i := 6) rfl)
  unfold wX2_moved at hq
  refine lv_iconst (v := (0 : Int32)) hx hb dX2_moved_0 (by decide) ?_
  refine lv_istore_n (lv' := [(1, .int (0 : Int32)), (0, .ref (ad o0))]) hx hb dX2_moved_1 rfl hl (by decide) rfl (fun ls hl => ?_)
  refine lv_iconst (v := (0 : Int32)) hx hb dX2_moved_2 (by decide) ?_
  refine lv_istore_n (lv' := [(2, .int (0 : Int32)), (1, .int (0 : Int32)), (0, .ref (ad o0))]) hx hb dX2_moved_3 rfl hl (by decide) rfl (fun ls hl => ?_)
  obtain ⟨fu4, hq⟩ := hq
  have lp4 : ∀ (fu4 : Nat) (x3 : Int32) (x4 : Int32) (H : Heap) (locs : List Loc) (ls : Array Slot), lpX2_moved_4 M o0 Q fu4 x3 x4 → zH D Y ad kd RL M J A s.heap H locs s → lv_has ls 3 [(0, .ref (ad o0)), (1, .int x3), (2, .int x4)] → W p l e rmX2_moved s m ar below meth c H locs 0 0 QE (F0 m 4 ls []) := by
    intro fu4
    induction fu4 with
    | zero => intro x3 x4 H locs ls hq; exact hq.elim
    | succ fu4 ih4 =>
      intro x3 x4 H locs ls hq hw hl
      unfold lpX2_moved_4 at hq
      refine lv_iload_n hx hb dX2_moved_4 rfl (lv_at hl 2 rfl) ?_
      refine lv_aload_n hx hb dX2_moved_5 rfl (lv_at hl 0 rfl) ?_
      refine zg2_pegs hx hb g2 hown hw h_o0 q1 dX2_moved_6 ?_
      refine lv_icmp_ge (tgt := 30) hx hb dX2_moved_9 (by decide) (fun hc => ?_) (fun hc => ?_)
      · have hq := hq.1 hc
        refine lv_iload_n hx hb dX2_moved_30 rfl (lv_at hl 1 rfl) ?_
        exact z_iret hQE hx hb hr hlk hw dX2_moved_31 ⟨hq, rfl, rfl⟩
      · have hq := hq.2 hc
        refine lv_iload_n hx hb dX2_moved_12 rfl (lv_at hl 1 rfl) ?_
        refine lv_aload_n hx hb dX2_moved_13 rfl (lv_at hl 0 rfl) ?_
        refine zg2_slews hx hb g2 hown hw h_o0 q2 dX2_moved_14 ?_
        refine lv_iload_n hx hb dX2_moved_17 rfl (lv_at hl 2 rfl) ?_
        obtain ⟨hi, hq⟩ := hq
        refine z_iald (n := 12) hx hb hw (zk_2_4 hC h_o0) hi dX2_moved_18 ?_
        refine va_mabs hx hb (hml.trans hl.1.symm) hown q3 q4 q5 q6 (Nat.le_of_ble_eq_true rfl) (Nat.le_of_ble_eq_true rfl) (Nat.zero_le _) (Nat.zero_le _) dX2_moved_19 ?_
        refine lv_iadd hx hb dX2_moved_22 ?_
        refine lv_istore_n (lv' := [(1, .int (x3 + (zabs (M (o0 + 4) x4.toNatClampNeg)))), (0, .ref (ad o0)), (2, .int x4)]) hx hb dX2_moved_23 rfl hl (by decide) rfl (fun ls hl => ?_)
        obtain ⟨x5, e_x5⟩ : ∃ y : Int32, y = x4 + (1 : Int32) := ⟨_, rfl⟩
        have hq := hq x5 e_x5
        refine lv_iinc (v := x5) (lv' := [(2, .int x5), (1, .int (x3 + (zabs (M (o0 + 4) x4.toNatClampNeg)))), (0, .ref (ad o0))]) hx hb dX2_moved_24 hl (k := 2) rfl (by rw [e_x5]; rfl) (by decide) rfl (fun ls hl => ?_)
        refine lv_goto (tgt := 4) hx hb dX2_moved_27 (by decide) ?_
        exact ih4 (x3 + (zabs (M (o0 + 4) x4.toNatClampNeg))) x5 _ _ _ hq hw (lv_sub hl [2, 1, 0] rfl)
  exact lp4 fu4 (0 : Int32) (0 : Int32) _ _ _ hq hw (lv_sub hl [2, 1, 0] rfl)
theorem dX2_slewed_0 : decode cX2_slewed 0 = .ok (.iconst 0, 1) := by decide +kernel
theorem dX2_slewed_1 : decode cX2_slewed 1 = .ok (.istore_n 1, 1) := by decide +kernel
theorem dX2_slewed_2 : decode cX2_slewed 2 = .ok (.iconst 0, 1) := by decide +kernel
theorem dX2_slewed_3 : decode cX2_slewed 3 = .ok (.istore_n 2, 1) := by decide +kernel
theorem dX2_slewed_4 : decode cX2_slewed 4 = .ok (.iload_n 2, 1) := by decide +kernel
theorem dX2_slewed_5 : decode cX2_slewed 5 = .ok (.aload_n 0, 1) := by decide +kernel
theorem dX2_slewed_6 : decode cX2_slewed 6 = .ok (.getfield 9, 3) := by decide +kernel
theorem dX2_slewed_9 : decode cX2_slewed 9 = .ok (.if_icmp .ge 21, 3) := by decide +kernel
theorem dX2_slewed_12 : decode cX2_slewed 12 = .ok (.aload_n 0, 1) := by decide +kernel
theorem dX2_slewed_13 : decode cX2_slewed 13 = .ok (.getfield 28, 3) := by decide +kernel
theorem dX2_slewed_16 : decode cX2_slewed 16 = .ok (.iload_n 2, 1) := by decide +kernel
theorem dX2_slewed_17 : decode cX2_slewed 17 = .ok (.iaload, 1) := by decide +kernel
theorem dX2_slewed_18 : decode cX2_slewed 18 = .ok (.ifCond .eq 6, 3) := by decide +kernel
theorem dX2_slewed_21 : decode cX2_slewed 21 = .ok (.iinc 1 1, 3) := by decide +kernel
theorem dX2_slewed_24 : decode cX2_slewed 24 = .ok (.iinc 2 1, 3) := by decide +kernel
theorem dX2_slewed_27 : decode cX2_slewed 27 = .ok (.goto (-23), 3) := by decide +kernel
theorem dX2_slewed_30 : decode cX2_slewed 30 = .ok (.iload_n 1, 1) := by decide +kernel
theorem dX2_slewed_31 : decode cX2_slewed 31 = .ok (.ireturn, 1) := by decide +kernel
def rmX2_slewed : Room := { frames := 0, cells := 0, slots := 0, locals := 0 }
def lpX2_slewed_4 (M : zM) (o0 : Nat) (Q : Int32 → Prop) : Nat → Int32 → Int32 → Prop
  | 0, _, _ => False
  | fu4 + 1, x3, x4 =>
    (((M o0 0) ≤ x4) → (
    Q x3)) ∧
    ((¬ (M o0 0) ≤ x4) → (
    vp_in x4 12 ∧
    (((M (o0 + 4) x4.toNatClampNeg) = 0) → (
    ∀ x5 : Int32, x5 = x4 + (1 : Int32) →
    lpX2_slewed_4 M o0 Q fu4 x3 x5)) ∧
    ((¬ (M (o0 + 4) x4.toNatClampNeg) = 0) → (
    ∀ x6 : Int32, x6 = x3 + (1 : Int32) →
    ∀ x7 : Int32, x7 = x4 + (1 : Int32) →
    lpX2_slewed_4 M o0 Q fu4 x6 x7))))
def wX2_slewed (M : zM) (o0 : Nat) (Q : Int32 → Prop) : Prop :=
    ∃ fu4 : Nat, lpX2_slewed_4 M o0 Q fu4 (0 : Int32) (0 : Int32)
set_option maxHeartbeats 4000000 in
set_option maxRecDepth 100000 in
theorem kX2_slewed {l : Launch} {D : va_G} {Y : zY} {ad kd : Nat → Nat} {RL : List Nat} {M : zM} {J : zL} {o0 : Nat} (h_o0 : kd o0 = 2) {Q : Int32 → Prop} (hq : wX2_slewed M o0 Q) : zCi l yX2_slewed wsX2_slewed rmX2_slewed [.ref (ad o0)] D Y ad kd RL M J (fun r M' J' => Q r ∧ M = M' ∧ J = J') := by
  refine z_meti (cc := cX2_slewed) (maxL := 3) (ret := (some .int)) (by decide) rfl (Nat.le_of_ble_eq_true rfl) ?_
  intro p e s m below meth c ls A ar QE hQE hx hb hr hml hown hts hlk hw hl
  have hown : s.vm.findClass RX2 = some m.cls := hown
  have hl : lv_has ls 3 [(0, .ref (ad o0))] := hl
  have hC := hw.2.2.2.2.2.1
  have g2 : ∀ w ∈ wsX20, w.before ar s = true := (fun w h => hts w (List.mem_cons_of_mem _ (List.mem_append_right _ h)))
  have q1 := hts _ (List.mem_of_getElem? (i := 1) rfl)
  have q2 := hts _ (List.mem_of_getElem? (i := 2) rfl)
  unfold wX2_slewed at hq
  refine lv_iconst (v := (0 : Int32)) hx hb dX2_slewed_0 (by decide) ?_
  refine lv_istore_n (lv' := [(1, .int (0 : Int32)), (0, .ref (ad o0))]) hx hb dX2_slewed_1 rfl hl (by decide) rfl (fun ls hl => ?_)
  refine lv_iconst (v := (0 : Int32)) hx hb dX2_slewed_2 (by decide) ?_
  refine lv_istore_n (lv' := [(2, .int (0 : Int32)), (1, .int (0 : Int32)), (0, .ref (ad o0))]) hx hb dX2_slewed_3 rfl hl (by decide) rfl (fun ls hl => ?_)
  obtain ⟨fu4, hq⟩ := hq
  have lp4 : ∀ (fu4 : Nat) (x3 : Int32) (x4 : Int32) (H : Heap) (locs : List Loc) (ls : Array Slot), lpX2_slewed_4 M o0 Q fu4 x3 x4 → zH D Y ad kd RL M J A s.heap H locs s → lv_has ls 3 [(0, .ref (ad o0)), (1, .int x3), (2, .int x4)] → W p l e rmX2_slewed s m ar below meth c H locs 0 0 QE (F0 m 4 ls []) := by
    intro fu4
    induction fu4 with
    | zero => intro x3 x4 H locs ls hq; exact hq.elim
    | succ fu4 ih4 =>
      intro x3 x4 H locs ls hq hw hl
      unfold lpX2_slewed_4 at hq
      refine lv_iload_n hx hb dX2_slewed_4 rfl (lv_at hl 2 rfl) ?_
      refine lv_aload_n hx hb dX2_slewed_5 rfl (lv_at hl 0 rfl) ?_
      refine zg2_pegs hx hb g2 hown hw h_o0 q1 dX2_slewed_6 ?_
      refine lv_icmp_ge (tgt := 30) hx hb dX2_slewed_9 (by decide) (fun hc => ?_) (fun hc => ?_)
      · have hq := hq.1 hc
        refine lv_iload_n hx hb dX2_slewed_30 rfl (lv_at hl 1 rfl) ?_
        exact z_iret hQE hx hb hr hlk hw dX2_slewed_31 ⟨hq, rfl, rfl⟩
      · have hq := hq.2 hc
        refine lv_aload_n hx hb dX2_slewed_12 rfl (lv_at hl 0 rfl) ?_
        refine zg2_slews hx hb g2 hown hw h_o0 q2 dX2_slewed_13 ?_
        refine lv_iload_n hx hb dX2_slewed_16 rfl (lv_at hl 2 rfl) ?_
        obtain ⟨hi, hq⟩ := hq
        refine z_iald (n := 12) hx hb hw (zk_2_4 hC h_o0) hi dX2_slewed_17 ?_
        refine lv_if_eq (tgt := 24) hx hb dX2_slewed_18 (by decide) (fun hc => ?_) (fun hc => ?_)
        · have hq := hq.1 hc
          obtain ⟨x5, e_x5⟩ : ∃ y : Int32, y = x4 + (1 : Int32) := ⟨_, rfl⟩
          have hq := hq x5 e_x5
          refine lv_iinc (v := x5) (lv' := [(2, .int x5), (0, .ref (ad o0)), (1, .int x3)]) hx hb dX2_slewed_24 hl (k := 2) rfl (by rw [e_x5]; rfl) (by decide) rfl (fun ls hl => ?_)
          refine lv_goto (tgt := 4) hx hb dX2_slewed_27 (by decide) ?_
          exact ih4 x3 x5 _ _ _ hq hw (lv_sub hl [1, 2, 0] rfl)
        · have hq := hq.2 hc
          obtain ⟨x6, e_x6⟩ : ∃ y : Int32, y = x3 + (1 : Int32) := ⟨_, rfl⟩
          have hq := hq x6 e_x6
          refine lv_iinc (v := x6) (lv' := [(1, .int x6), (0, .ref (ad o0)), (2, .int x4)]) hx hb dX2_slewed_21 hl (k := 1) rfl (by rw [e_x6]; rfl) (by decide) rfl (fun ls hl => ?_)
          obtain ⟨x7, e_x7⟩ : ∃ y : Int32, y = x4 + (1 : Int32) := ⟨_, rfl⟩
          have hq := hq x7 e_x7
          refine lv_iinc (v := x7) (lv' := [(2, .int x7), (1, .int x6), (0, .ref (ad o0))]) hx hb dX2_slewed_24 hl (k := 2) rfl (by rw [e_x7]; rfl) (by decide) rfl (fun ls hl => ?_)
          refine lv_goto (tgt := 4) hx hb dX2_slewed_27 (by decide) ?_
          exact ih4 x6 x7 _ _ _ hq hw (lv_sub hl [2, 1, 0] rfl)
  exact lp4 fu4 (0 : Int32) (0 : Int32) _ _ _ hq hw (lv_sub hl [2, 1, 0] rfl)
set_option maxRecDepth 20000 in
theorem ggX2_dropSlews_J7_fill_53178 : GoodIn wsX2_dropSlews wsJ7_fill_53178 := goodIn_r _ [5] (by decide +kernel) (by decide +kernel)
set_option maxRecDepth 20000 in
theorem gX2_dropSlews_J7_fill_53178 : GoodIn wsX2_dropSlews (va_wsS RX2 63 yJ7_fill_53178 wsJ7_fill_53178) := goodIn_app (goodIn_of _ (by decide +kernel)) ggX2_dropSlews_J7_fill_53178
theorem dX2_dropSlews_0 : decode cX2_dropSlews 0 = .ok (.aload_n 0, 1) := by decide +kernel
theorem dX2_dropSlews_1 : decode cX2_dropSlews 1 = .ok (.getfield 28, 3) := by decide +kernel
theorem dX2_dropSlews_4 : decode cX2_dropSlews 4 = .ok (.iconst 0, 1) := by decide +kernel
theorem dX2_dropSlews_5 : decode cX2_dropSlews 5 = .ok (.invokestatic 63, 3) := by decide +kernel
theorem dX2_dropSlews_8 : decode cX2_dropSlews 8 = .ok (.return_, 1) := by decide +kernel
def rmX2_dropSlews : Room := { frames := 1, cells := 0, slots := 0, locals := 23 }
def wX2_dropSlews (M : zM) (o0 : Nat) (Q : zM → Prop) : Prop :=
    wJ7_fill_53178 M (o0 + 4) 12 (0 : Int32) (fun M3 =>
    Q M3)
set_option maxHeartbeats 4000000 in
set_option maxRecDepth 100000 in
theorem kX2_dropSlews {l : Launch} {D : va_G} {Y : zY} {ad kd : Nat → Nat} {RL : List Nat} {M : zM} {J : zL} {o0 : Nat} (h_o0 : kd o0 = 2) {Q : zM → Prop} (hq : wX2_dropSlews M o0 Q) : zCv l yX2_dropSlews wsX2_dropSlews rmX2_dropSlews [.ref (ad o0)] D Y ad kd RL M J (fun M' J' => Q M' ∧ J = J') := by
  refine z_metv (cc := cX2_dropSlews) (maxL := 1) (ret := none) (by decide) rfl (Nat.le_of_ble_eq_true rfl) ?_
  intro p e s m below meth c ls A ar QE hQE hx hb hr hml hown hts hlk hw hl
  have hown : s.vm.findClass RX2 = some m.cls := hown
  have hl : lv_has ls 1 [(0, .ref (ad o0))] := hl
  have hC := hw.2.2.2.2.2.1
  have g2 : ∀ w ∈ wsX20, w.before ar s = true := (fun w h => hts w (List.mem_cons_of_mem _ (List.mem_append_right _ h)))
  have q1 := hts _ (List.mem_of_getElem? (i := 1) rfl)
  unfold wX2_dropSlews at hq
  refine lv_aload_n hx hb dX2_dropSlews_0 rfl (lv_at hl 0 rfl) ?_
  refine zg2_slews hx hb g2 hown hw h_o0 q1 dX2_dropSlews_1 ?_
  refine lv_iconst (v := (0 : Int32)) hx hb dX2_dropSlews_4 (by decide) ?_
  refine z_csv ⟨hx, hb, hml, hown, hts⟩ hw (kJ7_fill_53178 (zk_2_4 hC h_o0) hq) (va_cwS 2 hts gX2_dropSlews_J7_fill_53178 rfl rfl rfl (by decide +kernel) ⟨Nat.le_of_ble_eq_true rfl, Nat.le_of_ble_eq_true rfl⟩) rfl hl.1 rfl (Nat.le_of_ble_eq_true rfl) dX2_dropSlews_5 ⟨Nat.zero_le _, Nat.zero_le _⟩ (fun M3 J0 H locs hq hw => ?_)
  obtain ⟨hq, rfl⟩ := hq
  exact z_vret hQE hx hb hr hlk hw dX2_dropSlews_8 ⟨hq, rfl⟩
set_option maxRecDepth 20000 in
theorem ggX2_workIn_X2_settledAt : GoodIn wsX2_workIn wsX2_settledAt := goodIn_r _ [15, 16, 17, 18, 14, 19, 1, 2, 20, 21, 22, 23, 24, 37, 38, 39, 40, 41, 42] (by decide +kernel) (by decide +kernel)
set_option maxRecDepth 20000 in
theorem gX2_workIn_X2_settledAt : GoodIn wsX2_workIn (wsV RX2 69 RX2 yX2_settledAt wsX2_settledAt) := goodIn_app (goodIn_of _ (by decide +kernel)) ggX2_workIn_X2_settledAt
set_option maxRecDepth 20000 in
theorem ggX2_workIn_X2_now : GoodIn wsX2_workIn wsX2_now := goodIn_r _ [28, 3, 2, 16, 17, 18, 14, 19, 1, 37, 38, 39, 40, 41, 42] (by decide +kernel) (by decide +kernel)
set_option maxRecDepth 20000 in
theorem gX2_workIn_X2_now : GoodIn wsX2_workIn (wsV RX2 54 RX2 yX2_now wsX2_now) := goodIn_app (goodIn_of _ (by decide +kernel)) ggX2_workIn_X2_now
set_option maxRecDepth 20000 in
theorem ggX2_workIn_X2_dropSlews : GoodIn wsX2_workIn wsX2_dropSlews := goodIn_r _ [32, 2, 33, 34, 35, 36, 37, 38, 39, 40, 41, 42] (by decide +kernel) (by decide +kernel)
set_option maxRecDepth 20000 in
theorem gX2_workIn_X2_dropSlews : GoodIn wsX2_workIn (wsV RX2 75 RX2 yX2_dropSlews wsX2_dropSlews) := goodIn_app (goodIn_of _ (by decide +kernel)) ggX2_workIn_X2_dropSlews
theorem dX2_workIn_0 : decode cX2_workIn 0 = .ok (.iconst 0, 1) := by decide +kernel
theorem dX2_workIn_1 : decode cX2_workIn 1 = .ok (.istore_n 1, 1) := by decide +kernel
theorem dX2_workIn_2 : decode cX2_workIn 2 = .ok (.iload_n 1, 1) := by decide +kernel
theorem dX2_workIn_3 : decode cX2_workIn 3 = .ok (.aload_n 0, 1) := by decide +kernel
theorem dX2_workIn_4 : decode cX2_workIn 4 = .ok (.getfield 9, 3) := by decide +kernel
theorem dX2_workIn_7 : decode cX2_workIn 7 = .ok (.if_icmp .ge 20, 3) := by decide +kernel
theorem dX2_workIn_10 : decode cX2_workIn 10 = .ok (.aload_n 0, 1) := by decide +kernel
theorem dX2_workIn_11 : decode cX2_workIn 11 = .ok (.getfield 28, 3) := by decide +kernel
theorem dX2_workIn_14 : decode cX2_workIn 14 = .ok (.iload_n 1, 1) := by decide +kernel
theorem dX2_workIn_15 : decode cX2_workIn 15 = .ok (.aload_n 0, 1) := by decide +kernel
theorem dX2_workIn_16 : decode cX2_workIn 16 = .ok (.iload_n 1, 1) := by decide +kernel
theorem dX2_workIn_17 : decode cX2_workIn 17 = .ok (.invokevirtual 69, 3) := by decide +kernel
theorem dX2_workIn_20 : decode cX2_workIn 20 = .ok (.iastore, 1) := by decide +kernel
theorem dX2_workIn_21 : decode cX2_workIn 21 = .ok (.iinc 1 1, 3) := by decide +kernel
theorem dX2_workIn_24 : decode cX2_workIn 24 = .ok (.goto (-22), 3) := by decide +kernel
theorem dX2_workIn_27 : decode cX2_workIn 27 = .ok (.iconst 0, 1) := by decide +kernel
theorem dX2_workIn_28 : decode cX2_workIn 28 = .ok (.istore_n 1, 1) := by decide +kernel
theorem dX2_workIn_29 : decode cX2_workIn 29 = .ok (.iload_n 1, 1) := by decide +kernel
theorem dX2_workIn_30 : decode cX2_workIn 30 = .ok (.aload_n 0, 1) := by decide +kernel
theorem dX2_workIn_31 : decode cX2_workIn 31 = .ok (.getfield 9, 3) := by decide +kernel
theorem dX2_workIn_34 : decode cX2_workIn 34 = .ok (.if_icmp .ge 32, 3) := by decide +kernel
theorem dX2_workIn_37 : decode cX2_workIn 37 = .ok (.aload_n 0, 1) := by decide +kernel
theorem dX2_workIn_38 : decode cX2_workIn 38 = .ok (.getfield 22, 3) := by decide +kernel
theorem dX2_workIn_41 : decode cX2_workIn 41 = .ok (.iload_n 1, 1) := by decide +kernel
theorem dX2_workIn_42 : decode cX2_workIn 42 = .ok (.sipush (-999), 3) := by decide +kernel
theorem dX2_workIn_45 : decode cX2_workIn 45 = .ok (.sipush 999, 3) := by decide +kernel
theorem dX2_workIn_48 : decode cX2_workIn 48 = .ok (.aload_n 0, 1) := by decide +kernel
theorem dX2_workIn_49 : decode cX2_workIn 49 = .ok (.iload_n 1, 1) := by decide +kernel
theorem dX2_workIn_50 : decode cX2_workIn 50 = .ok (.invokevirtual 54, 3) := by decide +kernel
theorem dX2_workIn_53 : decode cX2_workIn 53 = .ok (.invokestatic 72, 3) := by decide +kernel
theorem dX2_workIn_56 : decode cX2_workIn 56 = .ok (.invokestatic 37, 3) := by decide +kernel
theorem dX2_workIn_59 : decode cX2_workIn 59 = .ok (.iastore, 1) := by decide +kernel
theorem dX2_workIn_60 : decode cX2_workIn 60 = .ok (.iinc 1 1, 3) := by decide +kernel
theorem dX2_workIn_63 : decode cX2_workIn 63 = .ok (.goto (-34), 3) := by decide +kernel
theorem dX2_workIn_66 : decode cX2_workIn 66 = .ok (.aload_n 0, 1) := by decide +kernel
theorem dX2_workIn_67 : decode cX2_workIn 67 = .ok (.invokevirtual 75, 3) := by decide +kernel
theorem dX2_workIn_70 : decode cX2_workIn 70 = .ok (.return_, 1) := by decide +kernel
def rmX2_workIn : Room := { frames := 2, cells := 0, slots := 0, locals := 43 }
def lpX2_workIn_29 (o0 : Nat) (Q : zM → Prop) : Nat → Int32 → zM → Prop
  | 0, _, _ => False
  | fu29 + 1, x7, M8 =>
    (((M8 o0 0) ≤ x7) → (
    wX2_dropSlews M8 o0 (fun M9 =>
    Q M9))) ∧
    ((¬ (M8 o0 0) ≤ x7) → (
    wX2_now M8 o0 x7 (fun r10 =>
    vp_in x7 12 ∧
    ∀ M11 : zM, M11 = va_up M8 (o0 + 2) (upd (M8 (o0 + 2)) x7.toNatClampNeg (zmax (-999 : Int32) (zmin (999 : Int32) r10))) →
    ∀ x12 : Int32, x12 = x7 + (1 : Int32) →
    lpX2_workIn_29 o0 Q fu29 x12 M11)))
def lpX2_workIn_2 (o0 : Nat) (K2_27 : Int32 → zM → Prop) : Nat → Int32 → zM → Prop
  | 0, _, _ => False
  | fu2 + 1, x3, M4 =>
    (((M4 o0 0) ≤ x3) → (
    K2_27 x3 M4)) ∧
    ((¬ (M4 o0 0) ≤ x3) → (
    wX2_settledAt M4 o0 x3 (fun r13 =>
    vp_in x3 12 ∧
    ∀ M14 : zM, M14 = va_up M4 (o0 + 4) (upd (M4 (o0 + 4)) x3.toNatClampNeg r13) →
    ∀ x15 : Int32, x15 = x3 + (1 : Int32) →
    lpX2_workIn_2 o0 K2_27 fu2 x15 M14)))
def wX2_workIn (M : zM) (o0 : Nat) (Q : zM → Prop) : Prop :=
    ∃ fu2 : Nat, lpX2_workIn_2 o0 (fun x5 M6 =>
    ∃ fu29 : Nat, lpX2_workIn_29 o0 Q fu29 (0 : Int32) M6) fu2 (0 : Int32) M
set_option maxHeartbeats 4000000 in
set_option maxRecDepth 100000 in
theorem kX2_workIn {l : Launch} {D : va_G} {Y : zY} {ad kd : Nat → Nat} {RL : List Nat} {M : zM} {J : zL} {o0 : Nat} (h_o0 : kd o0 = 2) {Q : zM → Prop} (hq : wX2_workIn M o0 Q) : zCv l yX2_workIn wsX2_workIn rmX2_workIn [.ref (ad o0)] D Y ad kd RL M J (fun M' J' => Q M' ∧ J = J') := by
  refine z_metv (cc := cX2_workIn) (maxL := 2) (ret := none) (by decide) rfl (Nat.le_of_ble_eq_true rfl) ?_
  intro p e s m below meth c ls A ar QE hQE hx hb hr hml hown hts hlk hw hl
  have hown : s.vm.findClass RX2 = some m.cls := hown
  have hl : lv_has ls 2 [(0, .ref (ad o0))] := hl
  have hC := hw.2.2.2.2.2.1
  have g2 : ∀ w ∈ wsX20, w.before ar s = true := (fun w h => hts w (List.mem_cons_of_mem _ (List.mem_append_right _ h)))
  have q1 := hts _ (List.mem_of_getElem? (i := 1) rfl)
  have q2 := hts _ (List.mem_of_getElem? (i := 2) rfl)
  have q3 := hts _ (List.mem_of_getElem? (i := 3) rfl)
  have q4 := hts _ (List.mem_of_getElem? (i := 4) rfl)
  have q5 := hts _ (List.mem_of_getElem? (i := 5) rfl)
  have q6 := hts _ (List.mem_of_getElem? (i := 6) rfl)
  have q7 := hts _ (List.mem_of_getElem? (i := 7) rfl)
  have q8 := hts _ (List.mem_of_getElem? (i := 8) rfl)
  have q9 := hts _ (List.mem_of_getElem? (i := 9) rfl)
  have q10 := hts _ (List.mem_of_getElem? (i := 10) rfl)
  unfold wX2_workIn at hq
  refine lv_iconst (v := (0 : Int32)) hx hb dX2_workIn_0 (by decide) ?_
  refine lv_istore_n (lv' := [(1, .int (0 : Int32)), (0, .ref (ad o0))]) hx hb dX2_workIn_1 rfl hl (by decide) rfl (fun ls hl => ?_)
  have ex2_27 : ∀ (x5 : Int32) (M6 : zM) (H : Heap) (locs : List Loc) (ls : Array Slot), (∃ fu29 : Nat, lpX2_workIn_29 o0 Q fu29 (0 : Int32) M6) → zH D Y ad kd RL M6 J A s.heap H locs s → lv_has ls 2 [(0, .ref (ad o0))] → W p l e rmX2_workIn s m ar below meth c H locs 0 0 QE (F0 m 27 ls []) := by
    intro x5 M6 H locs ls hq hw hl
    refine lv_iconst (v := (0 : Int32)) hx hb dX2_workIn_27 (by decide) ?_
    refine lv_istore_n (lv' := [(1, .int (0 : Int32)), (0, .ref (ad o0))]) hx hb dX2_workIn_28 rfl hl (by decide) rfl (fun ls hl => ?_)
    obtain ⟨fu29, hq⟩ := hq
    have lp29 : ∀ (fu29 : Nat) (x7 : Int32) (M8 : zM) (H : Heap) (locs : List Loc) (ls : Array Slot), lpX2_workIn_29 o0 Q fu29 x7 M8 → zH D Y ad kd RL M8 J A s.heap H locs s → lv_has ls 2 [(0, .ref (ad o0)), (1, .int x7)] → W p l e rmX2_workIn s m ar below meth c H locs 0 0 QE (F0 m 29 ls []) := by
      intro fu29
      induction fu29 with
      | zero => intro x7 M8 H locs ls hq; exact hq.elim
      | succ fu29 ih29 =>
        intro x7 M8 H locs ls hq hw hl
        unfold lpX2_workIn_29 at hq
        refine lv_iload_n hx hb dX2_workIn_29 rfl (lv_at hl 1 rfl) ?_
        refine lv_aload_n hx hb dX2_workIn_30 rfl (lv_at hl 0 rfl) ?_
        refine zg2_pegs hx hb g2 hown hw h_o0 q1 dX2_workIn_31 ?_
        refine lv_icmp_ge (tgt := 66) hx hb dX2_workIn_34 (by decide) (fun hc => ?_) (fun hc => ?_)
        · have hq := hq.1 hc
          refine lv_aload_n hx hb dX2_workIn_66 rfl (lv_at hl 0 rfl) ?_
          refine z_cvv ⟨hx, hb, hml, hown, hts⟩ hw h_o0 (kX2_dropSlews h_o0 hq) (by decide) rfl (cwV 0 hts gX2_workIn_X2_dropSlews rfl rfl rfl (by decide +kernel) ⟨Nat.le_of_ble_eq_true rfl, Nat.le_of_ble_eq_true rfl⟩) rfl hl.1 rfl (Nat.le_of_ble_eq_true rfl) dX2_workIn_67 ⟨Nat.zero_le _, Nat.zero_le _⟩ (fun M9 J0 H locs hq hw => ?_)
          obtain ⟨hq, rfl⟩ := hq
          exact z_vret hQE hx hb hr hlk hw dX2_workIn_70 ⟨hq, rfl⟩
        · have hq := hq.2 hc
          refine lv_aload_n hx hb dX2_workIn_37 rfl (lv_at hl 0 rfl) ?_
          refine zg2_versines hx hb g2 hown hw h_o0 q3 dX2_workIn_38 ?_
          refine lv_iload_n hx hb dX2_workIn_41 rfl (lv_at hl 1 rfl) ?_
          refine lv_sipush (v := (-999 : Int32)) hx hb dX2_workIn_42 (by decide) ?_
          refine lv_sipush (v := (999 : Int32)) hx hb dX2_workIn_45 (by decide) ?_
          refine lv_aload_n hx hb dX2_workIn_48 rfl (lv_at hl 0 rfl) ?_
          refine lv_iload_n hx hb dX2_workIn_49 rfl (lv_at hl 1 rfl) ?_
          refine z_cvi ⟨hx, hb, hml, hown, hts⟩ hw h_o0 (kX2_now h_o0 hq) (by decide) rfl (cwV 1 hts gX2_workIn_X2_now rfl rfl rfl (by decide +kernel) ⟨Nat.le_of_ble_eq_true rfl, Nat.le_of_ble_eq_true rfl⟩) rfl hl.1 rfl (Nat.le_of_ble_eq_true rfl) dX2_workIn_50 ⟨Nat.zero_le _, Nat.zero_le _⟩ (fun r10 M0 J0 H locs hq hw => ?_)
          obtain ⟨hq, rfl, rfl⟩ := hq
          refine va_mmin hx hb (hml.trans hl.1.symm) hown q4 q5 q6 q7 (Nat.le_of_ble_eq_true rfl) (Nat.le_of_ble_eq_true rfl) (Nat.zero_le _) (Nat.zero_le _) dX2_workIn_53 ?_
          refine va_mmax hx hb (hml.trans hl.1.symm) hown q8 q9 q6 q10 (Nat.le_of_ble_eq_true rfl) (Nat.le_of_ble_eq_true rfl) (Nat.zero_le _) (Nat.zero_le _) dX2_workIn_56 ?_
          obtain ⟨hi, hq⟩ := hq
          refine z_iast (n := 12) hx hb hw (zk_2_2 hC h_o0) hi dX2_workIn_59 (fun H locs hw => ?_)
          obtain ⟨M11, e_M11⟩ : ∃ y : zM, y = va_up M8 (o0 + 2) (upd (M8 (o0 + 2)) x7.toNatClampNeg (zmax (-999 : Int32) (zmin (999 : Int32) r10))) := ⟨_, rfl⟩
          rw [← e_M11] at hw
          have hq := hq M11 e_M11
          obtain ⟨x12, e_x12⟩ : ∃ y : Int32, y = x7 + (1 : Int32) := ⟨_, rfl⟩
          have hq := hq x12 e_x12
          refine lv_iinc (v := x12) (lv' := [(1, .int x12), (0, .ref (ad o0))]) hx hb dX2_workIn_60 hl (k := 1) rfl (by rw [e_x12]; rfl) (by decide) rfl (fun ls hl => ?_)
          refine lv_goto (tgt := 29) hx hb dX2_workIn_63 (by decide) ?_
          exact ih29 x12 M11 _ _ _ hq hw (lv_sub hl [1, 0] rfl)
    exact lp29 fu29 (0 : Int32) M6 _ _ _ hq hw (lv_sub hl [1, 0] rfl)
  obtain ⟨fu2, hq⟩ := hq
  have lp2 : ∀ (fu2 : Nat) (x3 : Int32) (M4 : zM) (H : Heap) (locs : List Loc) (ls : Array Slot), lpX2_workIn_2 o0 (fun x5 M6 => ∃ fu29 : Nat, lpX2_workIn_29 o0 Q fu29 (0 : Int32) M6) fu2 x3 M4 → zH D Y ad kd RL M4 J A s.heap H locs s → lv_has ls 2 [(0, .ref (ad o0)), (1, .int x3)] → W p l e rmX2_workIn s m ar below meth c H locs 0 0 QE (F0 m 2 ls []) := by
    intro fu2
    induction fu2 with
    | zero => intro x3 M4 H locs ls hq; exact hq.elim
    | succ fu2 ih2 =>
      intro x3 M4 H locs ls hq hw hl
      unfold lpX2_workIn_2 at hq
      refine lv_iload_n hx hb dX2_workIn_2 rfl (lv_at hl 1 rfl) ?_
      refine lv_aload_n hx hb dX2_workIn_3 rfl (lv_at hl 0 rfl) ?_
      refine zg2_pegs hx hb g2 hown hw h_o0 q1 dX2_workIn_4 ?_
      refine lv_icmp_ge (tgt := 27) hx hb dX2_workIn_7 (by decide) (fun hc => ?_) (fun hc => ?_)
      · have hq := hq.1 hc
        exact ex2_27 x3 M4 _ _ _ hq hw (lv_sub hl [0] rfl)
      · have hq := hq.2 hc
        refine lv_aload_n hx hb dX2_workIn_10 rfl (lv_at hl 0 rfl) ?_
        refine zg2_slews hx hb g2 hown hw h_o0 q2 dX2_workIn_11 ?_
        refine lv_iload_n hx hb dX2_workIn_14 rfl (lv_at hl 1 rfl) ?_
        refine lv_aload_n hx hb dX2_workIn_15 rfl (lv_at hl 0 rfl) ?_
        refine lv_iload_n hx hb dX2_workIn_16 rfl (lv_at hl 1 rfl) ?_
        refine z_cvi ⟨hx, hb, hml, hown, hts⟩ hw h_o0 (kX2_settledAt h_o0 hq) (by decide) rfl (cwV 1 hts gX2_workIn_X2_settledAt rfl rfl rfl (by decide +kernel) ⟨Nat.le_of_ble_eq_true rfl, Nat.le_of_ble_eq_true rfl⟩) rfl hl.1 rfl (Nat.le_of_ble_eq_true rfl) dX2_workIn_17 ⟨Nat.zero_le _, Nat.zero_le _⟩ (fun r13 M0 J0 H locs hq hw => ?_)
        obtain ⟨hq, rfl, rfl⟩ := hq
        obtain ⟨hi, hq⟩ := hq
        refine z_iast (n := 12) hx hb hw (zk_2_4 hC h_o0) hi dX2_workIn_20 (fun H locs hw => ?_)
        obtain ⟨M14, e_M14⟩ : ∃ y : zM, y = va_up M4 (o0 + 4) (upd (M4 (o0 + 4)) x3.toNatClampNeg r13) := ⟨_, rfl⟩
        rw [← e_M14] at hw
        have hq := hq M14 e_M14
        obtain ⟨x15, e_x15⟩ : ∃ y : Int32, y = x3 + (1 : Int32) := ⟨_, rfl⟩
        have hq := hq x15 e_x15
        refine lv_iinc (v := x15) (lv' := [(1, .int x15), (0, .ref (ad o0))]) hx hb dX2_workIn_21 hl (k := 1) rfl (by rw [e_x15]; rfl) (by decide) rfl (fun ls hl => ?_)
        refine lv_goto (tgt := 2) hx hb dX2_workIn_24 (by decide) ?_
        exact ih2 x15 M14 _ _ _ hq hw (lv_sub hl [1, 0] rfl)
  exact lp2 fu2 (0 : Int32) M _ _ _ hq hw (lv_sub hl [1, 0] rfl)
set_option maxRecDepth 20000 in
theorem ggX2_evenestSlew_X2_reach : GoodIn wsX2_evenestSlew wsX2_reach := goodIn_r _ [11, 12, 13, 14, 2, 3, 4, 5, 35, 36, 37, 38, 39, 40] (by decide +kernel) (by decide +kernel)
set_option maxRecDepth 20000 in
theorem gX2_evenestSlew_X2_reach : GoodIn wsX2_evenestSlew (wsV RX2 78 RX2 yX2_reach wsX2_reach) := goodIn_app (goodIn_of _ (by decide +kernel)) ggX2_evenestSlew_X2_reach
set_option maxRecDepth 20000 in
theorem ggX2_evenestSlew_X2_step : GoodIn wsX2_evenestSlew wsX2_step := goodIn_r _ [18, 19, 20, 4, 21, 22, 23, 24, 10, 25, 12, 13, 26, 27, 28, 29, 30, 1, 31, 32, 33, 34, 35, 36, 37, 38, 39, 40] (by decide +kernel) (by decide +kernel)
set_option maxRecDepth 20000 in
theorem gX2_evenestSlew_X2_step : GoodIn wsX2_evenestSlew (wsV RX2 60 RX2 yX2_step wsX2_step) := goodIn_app (goodIn_of _ (by decide +kernel)) ggX2_evenestSlew_X2_step
theorem dX2_evenestSlew_0 : decode cX2_evenestSlew 0 = .ok (.aload_n 0, 1) := by decide +kernel
theorem dX2_evenestSlew_1 : decode cX2_evenestSlew 1 = .ok (.getfield 28, 3) := by decide +kernel
theorem dX2_evenestSlew_4 : decode cX2_evenestSlew 4 = .ok (.iload_n 1, 1) := by decide +kernel
theorem dX2_evenestSlew_5 : decode cX2_evenestSlew 5 = .ok (.iaload, 1) := by decide +kernel
theorem dX2_evenestSlew_6 : decode cX2_evenestSlew 6 = .ok (.istore_n 2, 1) := by decide +kernel
theorem dX2_evenestSlew_7 : decode cX2_evenestSlew 7 = .ok (.iconst 0, 1) := by decide +kernel
theorem dX2_evenestSlew_8 : decode cX2_evenestSlew 8 = .ok (.iload_n 1, 1) := by decide +kernel
theorem dX2_evenestSlew_9 : decode cX2_evenestSlew 9 = .ok (.iconst 1, 1) := by decide +kernel
theorem dX2_evenestSlew_10 : decode cX2_evenestSlew 10 = .ok (.isub, 1) := by decide +kernel
theorem dX2_evenestSlew_11 : decode cX2_evenestSlew 11 = .ok (.invokestatic 37, 3) := by decide +kernel
theorem dX2_evenestSlew_14 : decode cX2_evenestSlew 14 = .ok (.istore_n 3, 1) := by decide +kernel
theorem dX2_evenestSlew_15 : decode cX2_evenestSlew 15 = .ok (.iconst 2, 1) := by decide +kernel
theorem dX2_evenestSlew_16 : decode cX2_evenestSlew 16 = .ok (.aload_n 0, 1) := by decide +kernel
theorem dX2_evenestSlew_17 : decode cX2_evenestSlew 17 = .ok (.iload_n 1, 1) := by decide +kernel
theorem dX2_evenestSlew_18 : decode cX2_evenestSlew 18 = .ok (.invokevirtual 78, 3) := by decide +kernel
theorem dX2_evenestSlew_21 : decode cX2_evenestSlew 21 = .ok (.imul, 1) := by decide +kernel
theorem dX2_evenestSlew_22 : decode cX2_evenestSlew 22 = .ok (.iconst 1, 1) := by decide +kernel
theorem dX2_evenestSlew_23 : decode cX2_evenestSlew 23 = .ok (.iadd, 1) := by decide +kernel
theorem dX2_evenestSlew_24 : decode cX2_evenestSlew 24 = .ok (.istore 4, 2) := by decide +kernel
theorem dX2_evenestSlew_26 : decode cX2_evenestSlew 26 = .ok (.iconst 0, 1) := by decide +kernel
theorem dX2_evenestSlew_27 : decode cX2_evenestSlew 27 = .ok (.istore 5, 2) := by decide +kernel
theorem dX2_evenestSlew_29 : decode cX2_evenestSlew 29 = .ok (.ldc 83, 2) := by decide +kernel
theorem dX2_evenestSlew_31 : decode cX2_evenestSlew 31 = .ok (.istore 6, 2) := by decide +kernel
theorem dX2_evenestSlew_33 : decode cX2_evenestSlew 33 = .ok (.iconst 0, 1) := by decide +kernel
theorem dX2_evenestSlew_34 : decode cX2_evenestSlew 34 = .ok (.istore 7, 2) := by decide +kernel
theorem dX2_evenestSlew_36 : decode cX2_evenestSlew 36 = .ok (.iload 7, 2) := by decide +kernel
theorem dX2_evenestSlew_38 : decode cX2_evenestSlew 38 = .ok (.iload 4, 2) := by decide +kernel
theorem dX2_evenestSlew_40 : decode cX2_evenestSlew 40 = .ok (.if_icmp .ge 63, 3) := by decide +kernel
theorem dX2_evenestSlew_43 : decode cX2_evenestSlew 43 = .ok (.iload 7, 2) := by decide +kernel
theorem dX2_evenestSlew_45 : decode cX2_evenestSlew 45 = .ok (.iconst 2, 1) := by decide +kernel
theorem dX2_evenestSlew_46 : decode cX2_evenestSlew 46 = .ok (.irem, 1) := by decide +kernel
theorem dX2_evenestSlew_47 : decode cX2_evenestSlew 47 = .ok (.iconst 1, 1) := by decide +kernel
theorem dX2_evenestSlew_48 : decode cX2_evenestSlew 48 = .ok (.if_icmp .ne 13, 3) := by decide +kernel
theorem dX2_evenestSlew_51 : decode cX2_evenestSlew 51 = .ok (.iload 7, 2) := by decide +kernel
theorem dX2_evenestSlew_53 : decode cX2_evenestSlew 53 = .ok (.iconst 1, 1) := by decide +kernel
theorem dX2_evenestSlew_54 : decode cX2_evenestSlew 54 = .ok (.iadd, 1) := by decide +kernel
theorem dX2_evenestSlew_55 : decode cX2_evenestSlew 55 = .ok (.ineg, 1) := by decide +kernel
theorem dX2_evenestSlew_56 : decode cX2_evenestSlew 56 = .ok (.iconst 2, 1) := by decide +kernel
theorem dX2_evenestSlew_57 : decode cX2_evenestSlew 57 = .ok (.idiv, 1) := by decide +kernel
theorem dX2_evenestSlew_58 : decode cX2_evenestSlew 58 = .ok (.goto 7, 3) := by decide +kernel
theorem dX2_evenestSlew_61 : decode cX2_evenestSlew 61 = .ok (.iload 7, 2) := by decide +kernel
theorem dX2_evenestSlew_63 : decode cX2_evenestSlew 63 = .ok (.iconst 2, 1) := by decide +kernel
theorem dX2_evenestSlew_64 : decode cX2_evenestSlew 64 = .ok (.idiv, 1) := by decide +kernel
theorem dX2_evenestSlew_65 : decode cX2_evenestSlew 65 = .ok (.istore 8, 2) := by decide +kernel
theorem dX2_evenestSlew_67 : decode cX2_evenestSlew 67 = .ok (.aload_n 0, 1) := by decide +kernel
theorem dX2_evenestSlew_68 : decode cX2_evenestSlew 68 = .ok (.getfield 28, 3) := by decide +kernel
theorem dX2_evenestSlew_71 : decode cX2_evenestSlew 71 = .ok (.iload_n 1, 1) := by decide +kernel
theorem dX2_evenestSlew_72 : decode cX2_evenestSlew 72 = .ok (.iload 8, 2) := by decide +kernel
theorem dX2_evenestSlew_74 : decode cX2_evenestSlew 74 = .ok (.iastore, 1) := by decide +kernel
theorem dX2_evenestSlew_75 : decode cX2_evenestSlew 75 = .ok (.aload_n 0, 1) := by decide +kernel
theorem dX2_evenestSlew_76 : decode cX2_evenestSlew 76 = .ok (.iload_n 3, 1) := by decide +kernel
theorem dX2_evenestSlew_77 : decode cX2_evenestSlew 77 = .ok (.invokevirtual 60, 3) := by decide +kernel
theorem dX2_evenestSlew_80 : decode cX2_evenestSlew 80 = .ok (.istore 9, 2) := by decide +kernel
theorem dX2_evenestSlew_82 : decode cX2_evenestSlew 82 = .ok (.iload 9, 2) := by decide +kernel
theorem dX2_evenestSlew_84 : decode cX2_evenestSlew 84 = .ok (.iload 6, 2) := by decide +kernel
theorem dX2_evenestSlew_86 : decode cX2_evenestSlew 86 = .ok (.if_icmp .ge 11, 3) := by decide +kernel
theorem dX2_evenestSlew_89 : decode cX2_evenestSlew 89 = .ok (.iload 9, 2) := by decide +kernel
theorem dX2_evenestSlew_91 : decode cX2_evenestSlew 91 = .ok (.istore 6, 2) := by decide +kernel
theorem dX2_evenestSlew_93 : decode cX2_evenestSlew 93 = .ok (.iload 8, 2) := by decide +kernel
theorem dX2_evenestSlew_95 : decode cX2_evenestSlew 95 = .ok (.istore 5, 2) := by decide +kernel
theorem dX2_evenestSlew_97 : decode cX2_evenestSlew 97 = .ok (.iinc 7 1, 3) := by decide +kernel
theorem dX2_evenestSlew_100 : decode cX2_evenestSlew 100 = .ok (.goto (-64), 3) := by decide +kernel
theorem dX2_evenestSlew_103 : decode cX2_evenestSlew 103 = .ok (.aload_n 0, 1) := by decide +kernel
theorem dX2_evenestSlew_104 : decode cX2_evenestSlew 104 = .ok (.getfield 28, 3) := by decide +kernel
theorem dX2_evenestSlew_107 : decode cX2_evenestSlew 107 = .ok (.iload_n 1, 1) := by decide +kernel
theorem dX2_evenestSlew_108 : decode cX2_evenestSlew 108 = .ok (.iload_n 2, 1) := by decide +kernel
theorem dX2_evenestSlew_109 : decode cX2_evenestSlew 109 = .ok (.iastore, 1) := by decide +kernel
theorem dX2_evenestSlew_110 : decode cX2_evenestSlew 110 = .ok (.iload 5, 2) := by decide +kernel
theorem dX2_evenestSlew_112 : decode cX2_evenestSlew 112 = .ok (.ireturn, 1) := by decide +kernel
def rmX2_evenestSlew : Room := { frames := 3, cells := 0, slots := 0, locals := 63 }
def jnX2_evenestSlew_65 (o0 : Nat) (x1 : Int32) (x5 : Int32) (x6 : Int32) (x7 : Int32) (M8 : zM) (B36 : Int32 → Int32 → Int32 → zM → Prop) (x14 : Int32) : Prop :=
    vp_in x1 12 ∧
    ∀ M15 : zM, M15 = va_up M8 (o0 + 4) (upd (M8 (o0 + 4)) x1.toNatClampNeg x14) →
    wX2_step M15 o0 (zmax (0 : Int32) (x1 - (1 : Int32))) (fun r16 =>
    ((x6 ≤ r16) → (
    ∀ x17 : Int32, x17 = x7 + (1 : Int32) →
    B36 x5 x6 x17 M15)) ∧
    ((¬ x6 ≤ r16) → (
    ∀ x18 : Int32, x18 = x7 + (1 : Int32) →
    B36 x14 r16 x18 M15)))
def lpX2_evenestSlew_36 (o0 : Nat) (x1 : Int32) (r4 : Int32) (K36_103 : Int32 → Int32 → Int32 → zM → Prop) : Nat → Int32 → Int32 → Int32 → zM → Prop
  | 0, _, _, _, _ => False
  | fu36 + 1, x5, x6, x7, M8 =>
    (((((2 : Int32) * r4) + (1 : Int32)) ≤ x7) → (
    K36_103 x5 x6 x7 M8)) ∧
    ((¬ (((2 : Int32) * r4) + (1 : Int32)) ≤ x7) → (
    ((¬ (x7 - x7 / (2 : Int32) * (2 : Int32)) = (1 : Int32)) → (
    jnX2_evenestSlew_65 o0 x1 x5 x6 x7 M8 (lpX2_evenestSlew_36 o0 x1 r4 K36_103 fu36) (x7 / (2 : Int32)))) ∧
    (((x7 - x7 / (2 : Int32) * (2 : Int32)) = (1 : Int32)) → (
    jnX2_evenestSlew_65 o0 x1 x5 x6 x7 M8 (lpX2_evenestSlew_36 o0 x1 r4 K36_103 fu36) ((-(x7 + (1 : Int32))) / (2 : Int32))))))
def wX2_evenestSlew (M : zM) (o0 : Nat) (x1 : Int32) (Q : Int32 → zM → Prop) : Prop :=
    vp_in x1 12 ∧
    wX2_reach M o0 x1 (fun r4 =>
    ∃ fu36 : Nat, lpX2_evenestSlew_36 o0 x1 r4 (fun x9 x10 x11 M12 =>
    vp_in x1 12 ∧
    ∀ M13 : zM, M13 = va_up M12 (o0 + 4) (upd (M12 (o0 + 4)) x1.toNatClampNeg (M (o0 + 4) x1.toNatClampNeg)) →
    Q x9 M13) fu36 (0 : Int32) (2147483647 : Int32) (0 : Int32) M)
set_option maxHeartbeats 4000000 in
set_option maxRecDepth 100000 in
theorem kX2_evenestSlew {l : Launch} {D : va_G} {Y : zY} {ad kd : Nat → Nat} {RL : List Nat} {M : zM} {J : zL} {o0 : Nat} {x1 : Int32} (h_o0 : kd o0 = 2) {Q : Int32 → zM → Prop} (hq : wX2_evenestSlew M o0 x1 Q) : zCi l yX2_evenestSlew wsX2_evenestSlew rmX2_evenestSlew [.ref (ad o0), .int x1] D Y ad kd RL M J (fun r M' J' => Q r M' ∧ J = J') := by
  refine z_meti (cc := cX2_evenestSlew) (maxL := 10) (ret := (some .int)) (by decide) rfl (Nat.le_of_ble_eq_true rfl) ?_
  intro p e s m below meth c ls A ar QE hQE hx hb hr hml hown hts hlk hw hl
  have hown : s.vm.findClass RX2 = some m.cls := hown
  have hl : lv_has ls 10 [(0, .ref (ad o0)), (1, .int x1)] := hl
  have hC := hw.2.2.2.2.2.1
  have g2 : ∀ w ∈ wsX20, w.before ar s = true := (fun w h => hts w (List.mem_cons_of_mem _ (List.mem_append_right _ h)))
  have q1 := hts _ (List.mem_of_getElem? (i := 1) rfl)
  have q2 := hts _ (List.mem_of_getElem? (i := 2) rfl)
  have q3 := hts _ (List.mem_of_getElem? (i := 3) rfl)
  have q4 := hts _ (List.mem_of_getElem? (i := 4) rfl)
  have q5 := hts _ (List.mem_of_getElem? (i := 5) rfl)
  have q6 := hts _ (List.mem_of_getElem? (i := 6) rfl)
  unfold wX2_evenestSlew at hq
  refine lv_aload_n hx hb dX2_evenestSlew_0 rfl (lv_at hl 0 rfl) ?_
  refine zg2_slews hx hb g2 hown hw h_o0 q1 dX2_evenestSlew_1 ?_
  refine lv_iload_n hx hb dX2_evenestSlew_4 rfl (lv_at hl 1 rfl) ?_
  obtain ⟨hi, hq⟩ := hq
  refine z_iald (n := 12) hx hb hw (zk_2_4 hC h_o0) hi dX2_evenestSlew_5 ?_
  refine lv_istore_n (lv' := [(2, .int (M (o0 + 4) x1.toNatClampNeg)), (0, .ref (ad o0)), (1, .int x1)]) hx hb dX2_evenestSlew_6 rfl hl (by decide) rfl (fun ls hl => ?_)
  refine lv_iconst (v := (0 : Int32)) hx hb dX2_evenestSlew_7 (by decide) ?_
  refine lv_iload_n hx hb dX2_evenestSlew_8 rfl (lv_at hl 2 rfl) ?_
  refine lv_iconst (v := (1 : Int32)) hx hb dX2_evenestSlew_9 (by decide) ?_
  refine lv_isub hx hb dX2_evenestSlew_10 ?_
  refine va_mmax hx hb (hml.trans hl.1.symm) hown q2 q3 q4 q5 (Nat.le_of_ble_eq_true rfl) (Nat.le_of_ble_eq_true rfl) (Nat.zero_le _) (Nat.zero_le _) dX2_evenestSlew_11 ?_
  refine lv_istore_n (lv' := [(3, .int (zmax (0 : Int32) (x1 - (1 : Int32)))), (2, .int (M (o0 + 4) x1.toNatClampNeg)), (0, .ref (ad o0)), (1, .int x1)]) hx hb dX2_evenestSlew_14 rfl hl (by decide) rfl (fun ls hl => ?_)
  refine lv_iconst (v := (2 : Int32)) hx hb dX2_evenestSlew_15 (by decide) ?_
  refine lv_aload_n hx hb dX2_evenestSlew_16 rfl (lv_at hl 2 rfl) ?_
  refine lv_iload_n hx hb dX2_evenestSlew_17 rfl (lv_at hl 3 rfl) ?_
  refine z_cvi ⟨hx, hb, hml, hown, hts⟩ hw h_o0 (kX2_reach h_o0 hq) (by decide) rfl (cwV 1 hts gX2_evenestSlew_X2_reach rfl rfl rfl (by decide +kernel) ⟨Nat.le_of_ble_eq_true rfl, Nat.le_of_ble_eq_true rfl⟩) rfl hl.1 rfl (Nat.le_of_ble_eq_true rfl) dX2_evenestSlew_18 ⟨Nat.zero_le _, Nat.zero_le _⟩ (fun r4 M0 J0 H locs hq hw => ?_)
  obtain ⟨hq, rfl, rfl⟩ := hq
  refine lv_imul hx hb dX2_evenestSlew_21 ?_
  refine lv_iconst (v := (1 : Int32)) hx hb dX2_evenestSlew_22 (by decide) ?_
  refine lv_iadd hx hb dX2_evenestSlew_23 ?_
  refine lv_istore (lv' := [(4, .int (((2 : Int32) * r4) + (1 : Int32))), (3, .int (zmax (0 : Int32) (x1 - (1 : Int32)))), (2, .int (M (o0 + 4) x1.toNatClampNeg)), (0, .ref (ad o0)), (1, .int x1)]) hx hb dX2_evenestSlew_24 hl (by decide) rfl (fun ls hl => ?_)
  refine lv_iconst (v := (0 : Int32)) hx hb dX2_evenestSlew_26 (by decide) ?_
  refine lv_istore (lv' := [(5, .int (0 : Int32)), (4, .int (((2 : Int32) * r4) + (1 : Int32))), (3, .int (zmax (0 : Int32) (x1 - (1 : Int32)))), (2, .int (M (o0 + 4) x1.toNatClampNeg)), (0, .ref (ad o0)), (1, .int x1)]) hx hb dX2_evenestSlew_27 hl (by decide) rfl (fun ls hl => ?_)
  refine lv_ldc (v := (2147483647 : Int32)) hx hb hown q6 dX2_evenestSlew_29 ?_
  refine lv_istore (lv' := [(6, .int (2147483647 : Int32)), (5, .int (0 : Int32)), (4, .int (((2 : Int32) * r4) + (1 : Int32))), (3, .int (zmax (0 : Int32) (x1 - (1 : Int32)))), (2, .int (M (o0 + 4) x1.toNatClampNeg)), (0, .ref (ad o0)), (1, .int x1)]) hx hb dX2_evenestSlew_31 hl (by decide) rfl (fun ls hl => ?_)
  refine lv_iconst (v := (0 : Int32)) hx hb dX2_evenestSlew_33 (by decide) ?_
  refine lv_istore (lv' := [(7, .int (0 : Int32)), (6, .int (2147483647 : Int32)), (5, .int (0 : Int32)), (4, .int (((2 : Int32) * r4) + (1 : Int32))), (3, .int (zmax (0 : Int32) (x1 - (1 : Int32)))), (2, .int (M (o0 + 4) x1.toNatClampNeg)), (0, .ref (ad o0)), (1, .int x1)]) hx hb dX2_evenestSlew_34 hl (by decide) rfl (fun ls hl => ?_)
  have ex36_103 : ∀ (x9 : Int32) (x10 : Int32) (x11 : Int32) (M12 : zM) (H : Heap) (locs : List Loc) (ls : Array Slot), (vp_in x1 12 ∧ ∀ M13 : zM, M13 = va_up M12 (o0 + 4) (upd (M12 (o0 + 4)) x1.toNatClampNeg (M (o0 + 4) x1.toNatClampNeg)) → Q x9 M13) → zH D Y ad kd RL M12 J A s.heap H locs s → lv_has ls 10 [(0, .ref (ad o0)), (1, .int x1), (2, .int (M (o0 + 4) x1.toNatClampNeg)), (5, .int x9)] → W p l e rmX2_evenestSlew s m ar below meth c H locs 0 0 QE (F0 m 103 ls []) := by
    intro x9 x10 x11 M12 H locs ls hq hw hl
    refine lv_aload_n hx hb dX2_evenestSlew_103 rfl (lv_at hl 0 rfl) ?_
    refine zg2_slews hx hb g2 hown hw h_o0 q1 dX2_evenestSlew_104 ?_
    refine lv_iload_n hx hb dX2_evenestSlew_107 rfl (lv_at hl 1 rfl) ?_
    refine lv_iload_n hx hb dX2_evenestSlew_108 rfl (lv_at hl 2 rfl) ?_
    obtain ⟨hi, hq⟩ := hq
    refine z_iast (n := 12) hx hb hw (zk_2_4 hC h_o0) hi dX2_evenestSlew_109 (fun H locs hw => ?_)
    obtain ⟨M13, e_M13⟩ : ∃ y : zM, y = va_up M12 (o0 + 4) (upd (M12 (o0 + 4)) x1.toNatClampNeg (M (o0 + 4) x1.toNatClampNeg)) := ⟨_, rfl⟩
    rw [← e_M13] at hw
    have hq := hq M13 e_M13
    refine lv_iload hx hb dX2_evenestSlew_110 (lv_at hl 3 rfl) ?_
    exact z_iret hQE hx hb hr hlk hw dX2_evenestSlew_112 ⟨hq, rfl⟩
  obtain ⟨fu36, hq⟩ := hq
  have lp36 : ∀ (fu36 : Nat) (x5 : Int32) (x6 : Int32) (x7 : Int32) (M8 : zM) (H : Heap) (locs : List Loc) (ls : Array Slot), lpX2_evenestSlew_36 o0 x1 r4 (fun x9 x10 x11 M12 => vp_in x1 12 ∧ ∀ M13 : zM, M13 = va_up M12 (o0 + 4) (upd (M12 (o0 + 4)) x1.toNatClampNeg (M (o0 + 4) x1.toNatClampNeg)) → Q x9 M13) fu36 x5 x6 x7 M8 → zH D Y ad kd RL M8 J A s.heap H locs s → lv_has ls 10 [(0, .ref (ad o0)), (1, .int x1), (2, .int (M (o0 + 4) x1.toNatClampNeg)), (3, .int (zmax (0 : Int32) (x1 - (1 : Int32)))), (4, .int (((2 : Int32) * r4) + (1 : Int32))), (5, .int x5), (6, .int x6), (7, .int x7)] → W p l e rmX2_evenestSlew s m ar below meth c H locs 0 0 QE (F0 m 36 ls []) := by
    intro fu36
    induction fu36 with
    | zero => intro x5 x6 x7 M8 H locs ls hq; exact hq.elim
    | succ fu36 ih36 =>
      intro x5 x6 x7 M8 H locs ls hq hw hl
      unfold lpX2_evenestSlew_36 at hq
      refine lv_iload hx hb dX2_evenestSlew_36 (lv_at hl 7 rfl) ?_
      refine lv_iload hx hb dX2_evenestSlew_38 (lv_at hl 4 rfl) ?_
      refine lv_icmp_ge (tgt := 103) hx hb dX2_evenestSlew_40 (by decide) (fun hc => ?_) (fun hc => ?_)
      · have hq := hq.1 hc
        exact ex36_103 x5 x6 x7 M8 _ _ _ hq hw (lv_sub hl [0, 1, 2, 5] rfl)
      · have hq := hq.2 hc
        refine lv_iload hx hb dX2_evenestSlew_43 (lv_at hl 7 rfl) ?_
        refine lv_iconst (v := (2 : Int32)) hx hb dX2_evenestSlew_45 (by decide) ?_
        refine lv_irem hx hb dX2_evenestSlew_46 (by decide) ?_
        refine lv_iconst (v := (1 : Int32)) hx hb dX2_evenestSlew_47 (by decide) ?_
        have jn65 : ∀ (x14 : Int32) (H : Heap) (locs : List Loc) (ls : Array Slot), jnX2_evenestSlew_65 o0 x1 x5 x6 x7 M8 (lpX2_evenestSlew_36 o0 x1 r4 (fun x9 x10 x11 M12 => vp_in x1 12 ∧ ∀ M13 : zM, M13 = va_up M12 (o0 + 4) (upd (M12 (o0 + 4)) x1.toNatClampNeg (M (o0 + 4) x1.toNatClampNeg)) → Q x9 M13) fu36) x14 → zH D Y ad kd RL M8 J A s.heap H locs s → lv_has ls 10 [(0, .ref (ad o0)), (1, .int x1), (2, .int (M (o0 + 4) x1.toNatClampNeg)), (3, .int (zmax (0 : Int32) (x1 - (1 : Int32)))), (4, .int (((2 : Int32) * r4) + (1 : Int32))), (5, .int x5), (6, .int x6), (7, .int x7)] → W p l e rmX2_evenestSlew s m ar below meth c H locs 0 0 QE (F0 m 65 ls [.int x14]) := by
          intro x14 H locs ls hq hw hl
          unfold jnX2_evenestSlew_65 at hq
          refine lv_istore (lv' := [(8, .int x14), (0, .ref (ad o0)), (1, .int x1), (2, .int (M (o0 + 4) x1.toNatClampNeg)), (3, .int (zmax (0 : Int32) (x1 - (1 : Int32)))), (4, .int (((2 : Int32) * r4) + (1 : Int32))), (5, .int x5), (6, .int x6), (7, .int x7)]) hx hb dX2_evenestSlew_65 hl (by decide) rfl (fun ls hl => ?_)
          refine lv_aload_n hx hb dX2_evenestSlew_67 rfl (lv_at hl 1 rfl) ?_
          refine zg2_slews hx hb g2 hown hw h_o0 q1 dX2_evenestSlew_68 ?_
          refine lv_iload_n hx hb dX2_evenestSlew_71 rfl (lv_at hl 2 rfl) ?_
          refine lv_iload hx hb dX2_evenestSlew_72 (lv_at hl 0 rfl) ?_
          obtain ⟨hi, hq⟩ := hq
          refine z_iast (n := 12) hx hb hw (zk_2_4 hC h_o0) hi dX2_evenestSlew_74 (fun H locs hw => ?_)
          obtain ⟨M15, e_M15⟩ : ∃ y : zM, y = va_up M8 (o0 + 4) (upd (M8 (o0 + 4)) x1.toNatClampNeg x14) := ⟨_, rfl⟩
          rw [← e_M15] at hw
          have hq := hq M15 e_M15
          refine lv_aload_n hx hb dX2_evenestSlew_75 rfl (lv_at hl 1 rfl) ?_
          refine lv_iload_n hx hb dX2_evenestSlew_76 rfl (lv_at hl 4 rfl) ?_
          refine z_cvi ⟨hx, hb, hml, hown, hts⟩ hw h_o0 (kX2_step h_o0 hq) (by decide) rfl (cwV 1 hts gX2_evenestSlew_X2_step rfl rfl rfl (by decide +kernel) ⟨Nat.le_of_ble_eq_true rfl, Nat.le_of_ble_eq_true rfl⟩) rfl hl.1 rfl (Nat.le_of_ble_eq_true rfl) dX2_evenestSlew_77 ⟨Nat.zero_le _, Nat.zero_le _⟩ (fun r16 M0 J0 H locs hq hw => ?_)
          obtain ⟨hq, rfl, rfl⟩ := hq
          refine lv_istore (lv' := [(9, .int r16), (8, .int x14), (0, .ref (ad o0)), (1, .int x1), (2, .int (M (o0 + 4) x1.toNatClampNeg)), (3, .int (zmax (0 : Int32) (x1 - (1 : Int32)))), (4, .int (((2 : Int32) * r4) + (1 : Int32))), (5, .int x5), (6, .int x6), (7, .int x7)]) hx hb dX2_evenestSlew_80 hl (by decide) rfl (fun ls hl => ?_)
          refine lv_iload hx hb dX2_evenestSlew_82 (lv_at hl 0 rfl) ?_
          refine lv_iload hx hb dX2_evenestSlew_84 (lv_at hl 8 rfl) ?_
          refine lv_icmp_ge (tgt := 97) hx hb dX2_evenestSlew_86 (by decide) (fun hc => ?_) (fun hc => ?_)
          · have hq := hq.1 hc
            obtain ⟨x17, e_x17⟩ : ∃ y : Int32, y = x7 + (1 : Int32) := ⟨_, rfl⟩
            have hq := hq x17 e_x17
            refine lv_iinc (v := x17) (lv' := [(7, .int x17), (9, .int r16), (8, .int x14), (0, .ref (ad o0)), (1, .int x1), (2, .int (M (o0 + 4) x1.toNatClampNeg)), (3, .int (zmax (0 : Int32) (x1 - (1 : Int32)))), (4, .int (((2 : Int32) * r4) + (1 : Int32))), (5, .int x5), (6, .int x6)]) hx hb dX2_evenestSlew_97 hl (k := 9) rfl (by rw [e_x17]; rfl) (by decide) rfl (fun ls hl => ?_)
            refine lv_goto (tgt := 36) hx hb dX2_evenestSlew_100 (by decide) ?_
            exact ih36 x5 x6 x17 M15 _ _ _ hq hw (lv_sub hl [3, 4, 5, 6, 7, 8, 9, 0] rfl)
          · have hq := hq.2 hc
            refine lv_iload hx hb dX2_evenestSlew_89 (lv_at hl 0 rfl) ?_
            refine lv_istore (lv' := [(6, .int r16), (9, .int r16), (8, .int x14), (0, .ref (ad o0)), (1, .int x1), (2, .int (M (o0 + 4) x1.toNatClampNeg)), (3, .int (zmax (0 : Int32) (x1 - (1 : Int32)))), (4, .int (((2 : Int32) * r4) + (1 : Int32))), (5, .int x5), (7, .int x7)]) hx hb dX2_evenestSlew_91 hl (by decide) rfl (fun ls hl => ?_)
            refine lv_iload hx hb dX2_evenestSlew_93 (lv_at hl 2 rfl) ?_
            refine lv_istore (lv' := [(5, .int x14), (6, .int r16), (9, .int r16), (8, .int x14), (0, .ref (ad o0)), (1, .int x1), (2, .int (M (o0 + 4) x1.toNatClampNeg)), (3, .int (zmax (0 : Int32) (x1 - (1 : Int32)))), (4, .int (((2 : Int32) * r4) + (1 : Int32))), (7, .int x7)]) hx hb dX2_evenestSlew_95 hl (by decide) rfl (fun ls hl => ?_)
            obtain ⟨x18, e_x18⟩ : ∃ y : Int32, y = x7 + (1 : Int32) := ⟨_, rfl⟩
            have hq := hq x18 e_x18
            refine lv_iinc (v := x18) (lv' := [(7, .int x18), (5, .int x14), (6, .int r16), (9, .int r16), (8, .int x14), (0, .ref (ad o0)), (1, .int x1), (2, .int (M (o0 + 4) x1.toNatClampNeg)), (3, .int (zmax (0 : Int32) (x1 - (1 : Int32)))), (4, .int (((2 : Int32) * r4) + (1 : Int32)))]) hx hb dX2_evenestSlew_97 hl (k := 9) rfl (by rw [e_x18]; rfl) (by decide) rfl (fun ls hl => ?_)
            refine lv_goto (tgt := 36) hx hb dX2_evenestSlew_100 (by decide) ?_
            exact ih36 x14 r16 x18 M15 _ _ _ hq hw (lv_sub hl [5, 6, 7, 8, 9, 1, 2, 0] rfl)
        refine lv_icmp_ne (tgt := 61) hx hb dX2_evenestSlew_48 (by decide) (fun hc => ?_) (fun hc => ?_)
        · have hq := hq.1 hc
          refine lv_iload hx hb dX2_evenestSlew_61 (lv_at hl 7 rfl) ?_
          refine lv_iconst (v := (2 : Int32)) hx hb dX2_evenestSlew_63 (by decide) ?_
          refine lv_idiv hx hb dX2_evenestSlew_64 (by decide) ?_
          exact jn65 (x7 / (2 : Int32)) _ _ _ hq hw (lv_sub hl [0, 1, 2, 3, 4, 5, 6, 7] rfl)
        · have hq := hq.2 hc
          refine lv_iload hx hb dX2_evenestSlew_51 (lv_at hl 7 rfl) ?_
          refine lv_iconst (v := (1 : Int32)) hx hb dX2_evenestSlew_53 (by decide) ?_
          refine lv_iadd hx hb dX2_evenestSlew_54 ?_
          refine lv_ineg hx hb dX2_evenestSlew_55 ?_
          refine lv_iconst (v := (2 : Int32)) hx hb dX2_evenestSlew_56 (by decide) ?_
          refine lv_idiv hx hb dX2_evenestSlew_57 (by decide) ?_
          refine lv_goto (tgt := 65) hx hb dX2_evenestSlew_58 (by decide) ?_
          exact jn65 ((-(x7 + (1 : Int32))) / (2 : Int32)) _ _ _ hq hw (lv_sub hl [0, 1, 2, 3, 4, 5, 6, 7] rfl)
  exact lp36 fu36 (0 : Int32) (2147483647 : Int32) (0 : Int32) M _ _ _ hq hw (lv_sub hl [6, 7, 5, 4, 3, 2, 1, 0] rfl)
theorem dX2_wish_0 : decode cX2_wish 0 = .ok (.aload_n 0, 1) := by decide +kernel
theorem dX2_wish_1 : decode cX2_wish 1 = .ok (.getfield 9, 3) := by decide +kernel
theorem dX2_wish_4 : decode cX2_wish 4 = .ok (.iconst 2, 1) := by decide +kernel
theorem dX2_wish_5 : decode cX2_wish 5 = .ok (.if_icmp .ge 10, 3) := by decide +kernel
theorem dX2_wish_8 : decode cX2_wish 8 = .ok (.aload_n 0, 1) := by decide +kernel
theorem dX2_wish_9 : decode cX2_wish 9 = .ok (.getfield 22, 3) := by decide +kernel
theorem dX2_wish_12 : decode cX2_wish 12 = .ok (.iload_n 1, 1) := by decide +kernel
theorem dX2_wish_13 : decode cX2_wish 13 = .ok (.iaload, 1) := by decide +kernel
theorem dX2_wish_14 : decode cX2_wish 14 = .ok (.ireturn, 1) := by decide +kernel
theorem dX2_wish_15 : decode cX2_wish 15 = .ok (.aload_n 0, 1) := by decide +kernel
theorem dX2_wish_16 : decode cX2_wish 16 = .ok (.getfield 22, 3) := by decide +kernel
theorem dX2_wish_19 : decode cX2_wish 19 = .ok (.aload_n 0, 1) := by decide +kernel
theorem dX2_wish_20 : decode cX2_wish 20 = .ok (.getfield 9, 3) := by decide +kernel
theorem dX2_wish_23 : decode cX2_wish 23 = .ok (.iconst 1, 1) := by decide +kernel
theorem dX2_wish_24 : decode cX2_wish 24 = .ok (.isub, 1) := by decide +kernel
theorem dX2_wish_25 : decode cX2_wish 25 = .ok (.iaload, 1) := by decide +kernel
theorem dX2_wish_26 : decode cX2_wish 26 = .ok (.aload_n 0, 1) := by decide +kernel
theorem dX2_wish_27 : decode cX2_wish 27 = .ok (.getfield 22, 3) := by decide +kernel
theorem dX2_wish_30 : decode cX2_wish 30 = .ok (.iconst 0, 1) := by decide +kernel
theorem dX2_wish_31 : decode cX2_wish 31 = .ok (.iaload, 1) := by decide +kernel
theorem dX2_wish_32 : decode cX2_wish 32 = .ok (.isub, 1) := by decide +kernel
theorem dX2_wish_33 : decode cX2_wish 33 = .ok (.iload_n 1, 1) := by decide +kernel
theorem dX2_wish_34 : decode cX2_wish 34 = .ok (.imul, 1) := by decide +kernel
theorem dX2_wish_35 : decode cX2_wish 35 = .ok (.aload_n 0, 1) := by decide +kernel
theorem dX2_wish_36 : decode cX2_wish 36 = .ok (.getfield 9, 3) := by decide +kernel
theorem dX2_wish_39 : decode cX2_wish 39 = .ok (.iconst 1, 1) := by decide +kernel
theorem dX2_wish_40 : decode cX2_wish 40 = .ok (.isub, 1) := by decide +kernel
theorem dX2_wish_41 : decode cX2_wish 41 = .ok (.idiv, 1) := by decide +kernel
theorem dX2_wish_42 : decode cX2_wish 42 = .ok (.aload_n 0, 1) := by decide +kernel
theorem dX2_wish_43 : decode cX2_wish 43 = .ok (.getfield 22, 3) := by decide +kernel
theorem dX2_wish_46 : decode cX2_wish 46 = .ok (.iconst 0, 1) := by decide +kernel
theorem dX2_wish_47 : decode cX2_wish 47 = .ok (.iaload, 1) := by decide +kernel
theorem dX2_wish_48 : decode cX2_wish 48 = .ok (.iadd, 1) := by decide +kernel
theorem dX2_wish_49 : decode cX2_wish 49 = .ok (.ireturn, 1) := by decide +kernel
def rmX2_wish : Room := { frames := 0, cells := 0, slots := 0, locals := 0 }
def wX2_wish (M : zM) (o0 : Nat) (x1 : Int32) (Q : Int32 → Prop) : Prop :=
    (((2 : Int32) ≤ (M o0 0)) → (
    vp_in ((M o0 0) - (1 : Int32)) 12 ∧
    ∀ x4 : Int32, x4 = (M (o0 + 2) ((M o0 0) - (1 : Int32)).toNatClampNeg) →
    ∀ x5 : Int32, x5 = ((x4 - (M (o0 + 2) (0 : Int32).toNatClampNeg)) * x1) →
    ¬ ((M o0 0) - (1 : Int32)) = 0 ∧
    ∀ x6 : Int32, x6 = ((x5 / ((M o0 0) - (1 : Int32))) + (M (o0 + 2) (0 : Int32).toNatClampNeg)) →
    Q x6)) ∧
    ((¬ (2 : Int32) ≤ (M o0 0)) → (
    vp_in x1 12 ∧
    Q (M (o0 + 2) x1.toNatClampNeg)))
set_option maxHeartbeats 4000000 in
set_option maxRecDepth 100000 in
theorem kX2_wish {l : Launch} {D : va_G} {Y : zY} {ad kd : Nat → Nat} {RL : List Nat} {M : zM} {J : zL} {o0 : Nat} {x1 : Int32} (h_o0 : kd o0 = 2) {Q : Int32 → Prop} (hq : wX2_wish M o0 x1 Q) : zCi l yX2_wish wsX2_wish rmX2_wish [.ref (ad o0), .int x1] D Y ad kd RL M J (fun r M' J' => Q r ∧ M = M' ∧ J = J') := by
  refine z_meti (cc := cX2_wish) (maxL := 2) (ret := (some .int)) (by decide) rfl (Nat.le_of_ble_eq_true rfl) ?_
  intro p e s m below meth c ls A ar QE hQE hx hb hr hml hown hts hlk hw hl
  have hown : s.vm.findClass RX2 = some m.cls := hown
  have hl : lv_has ls 2 [(0, .ref (ad o0)), (1, .int x1)] := hl
  have hC := hw.2.2.2.2.2.1
  have g2 : ∀ w ∈ wsX20, w.before ar s = true := (fun w h => hts w (List.mem_cons_of_mem _ (List.mem_append_right _ h)))
  have q1 := hts _ (List.mem_of_getElem? (i := 1) rfl)
  have q2 := hts _ (List.mem_of_getElem? (i := 2) rfl)
  unfold wX2_wish at hq
  refine lv_aload_n hx hb dX2_wish_0 rfl (lv_at hl 0 rfl) ?_
  refine zg2_pegs hx hb g2 hown hw h_o0 q1 dX2_wish_1 ?_
  refine lv_iconst (v := (2 : Int32)) hx hb dX2_wish_4 (by decide) ?_
  refine lv_icmp_ge (tgt := 15) hx hb dX2_wish_5 (by decide) (fun hc => ?_) (fun hc => ?_)
  · have hq := hq.1 hc
    refine lv_aload_n hx hb dX2_wish_15 rfl (lv_at hl 0 rfl) ?_
    refine zg2_versines hx hb g2 hown hw h_o0 q2 dX2_wish_16 ?_
    refine lv_aload_n hx hb dX2_wish_19 rfl (lv_at hl 0 rfl) ?_
    refine zg2_pegs hx hb g2 hown hw h_o0 q1 dX2_wish_20 ?_
    refine lv_iconst (v := (1 : Int32)) hx hb dX2_wish_23 (by decide) ?_
    refine lv_isub hx hb dX2_wish_24 ?_
    obtain ⟨hi, hq⟩ := hq
    refine z_iald (n := 12) hx hb hw (zk_2_2 hC h_o0) hi dX2_wish_25 ?_
    refine lv_topi (fun x4 e_x4 => ?_)
    have hq := hq x4 e_x4
    refine lv_aload_n hx hb dX2_wish_26 rfl (lv_at hl 0 rfl) ?_
    refine zg2_versines hx hb g2 hown hw h_o0 q2 dX2_wish_27 ?_
    refine lv_iconst (v := (0 : Int32)) hx hb dX2_wish_30 (by decide) ?_
    have hi : vp_in (0 : Int32) 12 := by unfold vp_in; decide
    refine z_iald (n := 12) hx hb hw (zk_2_2 hC h_o0) hi dX2_wish_31 ?_
    refine lv_isub hx hb dX2_wish_32 ?_
    refine lv_iload_n hx hb dX2_wish_33 rfl (lv_at hl 1 rfl) ?_
    refine lv_imul hx hb dX2_wish_34 ?_
    refine lv_topi (fun x5 e_x5 => ?_)
    have hq := hq x5 e_x5
    refine lv_aload_n hx hb dX2_wish_35 rfl (lv_at hl 0 rfl) ?_
    refine zg2_pegs hx hb g2 hown hw h_o0 q1 dX2_wish_36 ?_
    refine lv_iconst (v := (1 : Int32)) hx hb dX2_wish_39 (by decide) ?_
    refine lv_isub hx hb dX2_wish_40 ?_
    obtain ⟨hz, hq⟩ := hq
    refine lv_idiv hx hb dX2_wish_41 hz ?_
    refine lv_aload_n hx hb dX2_wish_42 rfl (lv_at hl 0 rfl) ?_
    refine zg2_versines hx hb g2 hown hw h_o0 q2 dX2_wish_43 ?_
    refine lv_iconst (v := (0 : Int32)) hx hb dX2_wish_46 (by decide) ?_
    have hi : vp_in (0 : Int32) 12 := by unfold vp_in; decide
    refine z_iald (n := 12) hx hb hw (zk_2_2 hC h_o0) hi dX2_wish_47 ?_
    refine lv_iadd hx hb dX2_wish_48 ?_
    refine lv_topi (fun x6 e_x6 => ?_)
    have hq := hq x6 e_x6
    exact z_iret hQE hx hb hr hlk hw dX2_wish_49 ⟨hq, rfl, rfl⟩
  · have hq := hq.2 hc
    refine lv_aload_n hx hb dX2_wish_8 rfl (lv_at hl 0 rfl) ?_
    refine zg2_versines hx hb g2 hown hw h_o0 q2 dX2_wish_9 ?_
    refine lv_iload_n hx hb dX2_wish_12 rfl (lv_at hl 1 rfl) ?_
    obtain ⟨hi, hq⟩ := hq
    refine z_iald (n := 12) hx hb hw (zk_2_2 hC h_o0) hi dX2_wish_13 ?_
    exact z_iret hQE hx hb hr hlk hw dX2_wish_14 ⟨hq, rfl, rfl⟩
set_option maxRecDepth 20000 in
theorem ggX2_secondSum_X2_wish : GoodIn wsX2_secondSum wsX2_wish := goodIn_r _ [6, 7, 1, 8, 9, 10, 11, 12, 13] (by decide +kernel) (by decide +kernel)
set_option maxRecDepth 20000 in
theorem gX2_secondSum_X2_wish : GoodIn wsX2_secondSum (wsV RX2 84 RX2 yX2_wish wsX2_wish) := goodIn_app (goodIn_of _ (by decide +kernel)) ggX2_secondSum_X2_wish
theorem dX2_secondSum_0 : decode cX2_secondSum 0 = .ok (.iconst 0, 1) := by decide +kernel
theorem dX2_secondSum_1 : decode cX2_secondSum 1 = .ok (.istore_n 2, 1) := by decide +kernel
theorem dX2_secondSum_2 : decode cX2_secondSum 2 = .ok (.iconst 0, 1) := by decide +kernel
theorem dX2_secondSum_3 : decode cX2_secondSum 3 = .ok (.istore_n 3, 1) := by decide +kernel
theorem dX2_secondSum_4 : decode cX2_secondSum 4 = .ok (.iload_n 3, 1) := by decide +kernel
theorem dX2_secondSum_5 : decode cX2_secondSum 5 = .ok (.iload_n 1, 1) := by decide +kernel
theorem dX2_secondSum_6 : decode cX2_secondSum 6 = .ok (.if_icmp .ge 28, 3) := by decide +kernel
theorem dX2_secondSum_9 : decode cX2_secondSum 9 = .ok (.iload_n 2, 1) := by decide +kernel
theorem dX2_secondSum_10 : decode cX2_secondSum 10 = .ok (.aload_n 0, 1) := by decide +kernel
theorem dX2_secondSum_11 : decode cX2_secondSum 11 = .ok (.iload_n 3, 1) := by decide +kernel
theorem dX2_secondSum_12 : decode cX2_secondSum 12 = .ok (.invokevirtual 84, 3) := by decide +kernel
theorem dX2_secondSum_15 : decode cX2_secondSum 15 = .ok (.aload_n 0, 1) := by decide +kernel
theorem dX2_secondSum_16 : decode cX2_secondSum 16 = .ok (.getfield 22, 3) := by decide +kernel
theorem dX2_secondSum_19 : decode cX2_secondSum 19 = .ok (.iload_n 3, 1) := by decide +kernel
theorem dX2_secondSum_20 : decode cX2_secondSum 20 = .ok (.iaload, 1) := by decide +kernel
theorem dX2_secondSum_21 : decode cX2_secondSum 21 = .ok (.isub, 1) := by decide +kernel
theorem dX2_secondSum_22 : decode cX2_secondSum 22 = .ok (.iload_n 1, 1) := by decide +kernel
theorem dX2_secondSum_23 : decode cX2_secondSum 23 = .ok (.iload_n 3, 1) := by decide +kernel
theorem dX2_secondSum_24 : decode cX2_secondSum 24 = .ok (.isub, 1) := by decide +kernel
theorem dX2_secondSum_25 : decode cX2_secondSum 25 = .ok (.imul, 1) := by decide +kernel
theorem dX2_secondSum_26 : decode cX2_secondSum 26 = .ok (.iadd, 1) := by decide +kernel
theorem dX2_secondSum_27 : decode cX2_secondSum 27 = .ok (.istore_n 2, 1) := by decide +kernel
theorem dX2_secondSum_28 : decode cX2_secondSum 28 = .ok (.iinc 3 1, 3) := by decide +kernel
theorem dX2_secondSum_31 : decode cX2_secondSum 31 = .ok (.goto (-27), 3) := by decide +kernel
theorem dX2_secondSum_34 : decode cX2_secondSum 34 = .ok (.iload_n 2, 1) := by decide +kernel
theorem dX2_secondSum_35 : decode cX2_secondSum 35 = .ok (.ireturn, 1) := by decide +kernel
def rmX2_secondSum : Room := { frames := 1, cells := 0, slots := 0, locals := 21 }
def lpX2_secondSum_4 (M : zM) (o0 : Nat) (x1 : Int32) (Q : Int32 → Prop) : Nat → Int32 → Int32 → Prop
  | 0, _, _ => False
  | fu4 + 1, x4, x5 =>
    ((x1 ≤ x5) → (
    Q x4)) ∧
    ((¬ x1 ≤ x5) → (
    wX2_wish M o0 x5 (fun r6 =>
    vp_in x5 12 ∧
    ∀ x7 : Int32, x7 = ((r6 - (M (o0 + 2) x5.toNatClampNeg)) * (x1 - x5)) →
    ∀ x8 : Int32, x8 = x5 + (1 : Int32) →
    lpX2_secondSum_4 M o0 x1 Q fu4 (x4 + x7) x8)))
def wX2_secondSum (M : zM) (o0 : Nat) (x1 : Int32) (Q : Int32 → Prop) : Prop :=
    ∃ fu4 : Nat, lpX2_secondSum_4 M o0 x1 Q fu4 (0 : Int32) (0 : Int32)
set_option maxHeartbeats 4000000 in
set_option maxRecDepth 100000 in
theorem kX2_secondSum {l : Launch} {D : va_G} {Y : zY} {ad kd : Nat → Nat} {RL : List Nat} {M : zM} {J : zL} {o0 : Nat} {x1 : Int32} (h_o0 : kd o0 = 2) {Q : Int32 → Prop} (hq : wX2_secondSum M o0 x1 Q) : zCi l yX2_secondSum wsX2_secondSum rmX2_secondSum [.ref (ad o0), .int x1] D Y ad kd RL M J (fun r M' J' => Q r ∧ M = M' ∧ J = J') := by
  refine z_meti (cc := cX2_secondSum) (maxL := 4) (ret := (some .int)) (by decide) rfl (Nat.le_of_ble_eq_true rfl) ?_
  intro p e s m below meth c ls A ar QE hQE hx hb hr hml hown hts hlk hw hl
  have hown : s.vm.findClass RX2 = some m.cls := hown
  have hl : lv_has ls 4 [(0, .ref (ad o0)), (1, .int x1)] := hl
  have hC := hw.2.2.2.2.2.1
  have g2 : ∀ w ∈ wsX20, w.before ar s = true := (fun w h => hts w (List.mem_cons_of_mem _ (List.mem_append_right _ h)))
  have q1 := hts _ (List.mem_of_getElem? (i := 1) rfl)
  unfold wX2_secondSum at hq
  refine lv_iconst (v := (0 : Int32)) hx hb dX2_secondSum_0 (by decide) ?_
  refine lv_istore_n (lv' := [(2, .int (0 : Int32)), (0, .ref (ad o0)), (1, .int x1)]) hx hb dX2_secondSum_1 rfl hl (by decide) rfl (fun ls hl => ?_)
  refine lv_iconst (v := (0 : Int32)) hx hb dX2_secondSum_2 (by decide) ?_
  refine lv_istore_n (lv' := [(3, .int (0 : Int32)), (2, .int (0 : Int32)), (0, .ref (ad o0)), (1, .int x1)]) hx hb dX2_secondSum_3 rfl hl (by decide) rfl (fun ls hl => ?_)
  obtain ⟨fu4, hq⟩ := hq
  have lp4 : ∀ (fu4 : Nat) (x4 : Int32) (x5 : Int32) (H : Heap) (locs : List Loc) (ls : Array Slot), lpX2_secondSum_4 M o0 x1 Q fu4 x4 x5 → zH D Y ad kd RL M J A s.heap H locs s → lv_has ls 4 [(0, .ref (ad o0)), (1, .int x1), (2, .int x4), (3, .int x5)] → W p l e rmX2_secondSum s m ar below meth c H locs 0 0 QE (F0 m 4 ls []) := by
    intro fu4
    induction fu4 with
    | zero => intro x4 x5 H locs ls hq; exact hq.elim
    | succ fu4 ih4 =>
      intro x4 x5 H locs ls hq hw hl
      unfold lpX2_secondSum_4 at hq
      refine lv_iload_n hx hb dX2_secondSum_4 rfl (lv_at hl 3 rfl) ?_
      refine lv_iload_n hx hb dX2_secondSum_5 rfl (lv_at hl 1 rfl) ?_
      refine lv_icmp_ge (tgt := 34) hx hb dX2_secondSum_6 (by decide) (fun hc => ?_) (fun hc => ?_)
      · have hq := hq.1 hc
        refine lv_iload_n hx hb dX2_secondSum_34 rfl (lv_at hl 2 rfl) ?_
        exact z_iret hQE hx hb hr hlk hw dX2_secondSum_35 ⟨hq, rfl, rfl⟩
      · have hq := hq.2 hc
        refine lv_iload_n hx hb dX2_secondSum_9 rfl (lv_at hl 2 rfl) ?_
        refine lv_aload_n hx hb dX2_secondSum_10 rfl (lv_at hl 0 rfl) ?_
        refine lv_iload_n hx hb dX2_secondSum_11 rfl (lv_at hl 3 rfl) ?_
        refine z_cvi ⟨hx, hb, hml, hown, hts⟩ hw h_o0 (kX2_wish h_o0 hq) (by decide) rfl (cwV 1 hts gX2_secondSum_X2_wish rfl rfl rfl (by decide +kernel) ⟨Nat.le_of_ble_eq_true rfl, Nat.le_of_ble_eq_true rfl⟩) rfl hl.1 rfl (Nat.le_of_ble_eq_true rfl) dX2_secondSum_12 ⟨Nat.zero_le _, Nat.zero_le _⟩ (fun r6 M0 J0 H locs hq hw => ?_)
        obtain ⟨hq, rfl, rfl⟩ := hq
        refine lv_aload_n hx hb dX2_secondSum_15 rfl (lv_at hl 0 rfl) ?_
        refine zg2_versines hx hb g2 hown hw h_o0 q1 dX2_secondSum_16 ?_
        refine lv_iload_n hx hb dX2_secondSum_19 rfl (lv_at hl 3 rfl) ?_
        obtain ⟨hi, hq⟩ := hq
        refine z_iald (n := 12) hx hb hw (zk_2_2 hC h_o0) hi dX2_secondSum_20 ?_
        refine lv_isub hx hb dX2_secondSum_21 ?_
        refine lv_iload_n hx hb dX2_secondSum_22 rfl (lv_at hl 1 rfl) ?_
        refine lv_iload_n hx hb dX2_secondSum_23 rfl (lv_at hl 3 rfl) ?_
        refine lv_isub hx hb dX2_secondSum_24 ?_
        refine lv_imul hx hb dX2_secondSum_25 ?_
        refine lv_topi (fun x7 e_x7 => ?_)
        have hq := hq x7 e_x7
        refine lv_iadd hx hb dX2_secondSum_26 ?_
        refine lv_istore_n (lv' := [(2, .int (x4 + x7)), (0, .ref (ad o0)), (1, .int x1), (3, .int x5)]) hx hb dX2_secondSum_27 rfl hl (by decide) rfl (fun ls hl => ?_)
        obtain ⟨x8, e_x8⟩ : ∃ y : Int32, y = x5 + (1 : Int32) := ⟨_, rfl⟩
        have hq := hq x8 e_x8
        refine lv_iinc (v := x8) (lv' := [(3, .int x8), (2, .int (x4 + x7)), (0, .ref (ad o0)), (1, .int x1)]) hx hb dX2_secondSum_28 hl (k := 3) rfl (by rw [e_x8]; rfl) (by decide) rfl (fun ls hl => ?_)
        refine lv_goto (tgt := 4) hx hb dX2_secondSum_31 (by decide) ?_
        exact ih4 (x4 + x7) x8 _ _ _ hq hw (lv_sub hl [2, 3, 1, 0] rfl)
  exact lp4 fu4 (0 : Int32) (0 : Int32) _ _ _ hq hw (lv_sub hl [2, 3, 1, 0] rfl)
set_option maxRecDepth 20000 in
theorem ggX2_closes_X2_wish : GoodIn wsX2_closes wsX2_wish := goodIn_r _ [7, 1, 2, 12, 13, 14, 15, 16, 17] (by decide +kernel) (by decide +kernel)
set_option maxRecDepth 20000 in
theorem gX2_closes_X2_wish : GoodIn wsX2_closes (wsV RX2 84 RX2 yX2_wish wsX2_wish) := goodIn_app (goodIn_of _ (by decide +kernel)) ggX2_closes_X2_wish
set_option maxRecDepth 20000 in
theorem ggX2_closes_X2_secondSum : GoodIn wsX2_closes wsX2_secondSum := goodIn_r _ [11, 2, 3, 4, 5, 6, 7, 1, 12, 13, 14, 15, 16, 17] (by decide +kernel) (by decide +kernel)
set_option maxRecDepth 20000 in
theorem gX2_closes_X2_secondSum : GoodIn wsX2_closes (wsV RX2 87 RX2 yX2_secondSum wsX2_secondSum) := goodIn_app (goodIn_of _ (by decide +kernel)) ggX2_closes_X2_secondSum
theorem dX2_closes_0 : decode cX2_closes 0 = .ok (.iconst 0, 1) := by decide +kernel
theorem dX2_closes_1 : decode cX2_closes 1 = .ok (.istore_n 1, 1) := by decide +kernel
theorem dX2_closes_2 : decode cX2_closes 2 = .ok (.iconst 0, 1) := by decide +kernel
theorem dX2_closes_3 : decode cX2_closes 3 = .ok (.istore_n 2, 1) := by decide +kernel
theorem dX2_closes_4 : decode cX2_closes 4 = .ok (.iload_n 2, 1) := by decide +kernel
theorem dX2_closes_5 : decode cX2_closes 5 = .ok (.aload_n 0, 1) := by decide +kernel
theorem dX2_closes_6 : decode cX2_closes 6 = .ok (.getfield 9, 3) := by decide +kernel
theorem dX2_closes_9 : decode cX2_closes 9 = .ok (.if_icmp .ge 24, 3) := by decide +kernel
theorem dX2_closes_12 : decode cX2_closes 12 = .ok (.iload_n 1, 1) := by decide +kernel
theorem dX2_closes_13 : decode cX2_closes 13 = .ok (.aload_n 0, 1) := by decide +kernel
theorem dX2_closes_14 : decode cX2_closes 14 = .ok (.iload_n 2, 1) := by decide +kernel
theorem dX2_closes_15 : decode cX2_closes 15 = .ok (.invokevirtual 84, 3) := by decide +kernel
theorem dX2_closes_18 : decode cX2_closes 18 = .ok (.aload_n 0, 1) := by decide +kernel
theorem dX2_closes_19 : decode cX2_closes 19 = .ok (.getfield 22, 3) := by decide +kernel
theorem dX2_closes_22 : decode cX2_closes 22 = .ok (.iload_n 2, 1) := by decide +kernel
theorem dX2_closes_23 : decode cX2_closes 23 = .ok (.iaload, 1) := by decide +kernel
theorem dX2_closes_24 : decode cX2_closes 24 = .ok (.isub, 1) := by decide +kernel
theorem dX2_closes_25 : decode cX2_closes 25 = .ok (.iadd, 1) := by decide +kernel
theorem dX2_closes_26 : decode cX2_closes 26 = .ok (.istore_n 1, 1) := by decide +kernel
theorem dX2_closes_27 : decode cX2_closes 27 = .ok (.iinc 2 1, 3) := by decide +kernel
theorem dX2_closes_30 : decode cX2_closes 30 = .ok (.goto (-26), 3) := by decide +kernel
theorem dX2_closes_33 : decode cX2_closes 33 = .ok (.iload_n 1, 1) := by decide +kernel
theorem dX2_closes_34 : decode cX2_closes 34 = .ok (.ifCond .ne 20, 3) := by decide +kernel
theorem dX2_closes_37 : decode cX2_closes 37 = .ok (.aload_n 0, 1) := by decide +kernel
theorem dX2_closes_38 : decode cX2_closes 38 = .ok (.aload_n 0, 1) := by decide +kernel
theorem dX2_closes_39 : decode cX2_closes 39 = .ok (.getfield 9, 3) := by decide +kernel
theorem dX2_closes_42 : decode cX2_closes 42 = .ok (.iconst 1, 1) := by decide +kernel
theorem dX2_closes_43 : decode cX2_closes 43 = .ok (.isub, 1) := by decide +kernel
theorem dX2_closes_44 : decode cX2_closes 44 = .ok (.invokevirtual 87, 3) := by decide +kernel
theorem dX2_closes_47 : decode cX2_closes 47 = .ok (.ifCond .ne 7, 3) := by decide +kernel
theorem dX2_closes_50 : decode cX2_closes 50 = .ok (.iconst 1, 1) := by decide +kernel
theorem dX2_closes_51 : decode cX2_closes 51 = .ok (.goto 4, 3) := by decide +kernel
theorem dX2_closes_54 : decode cX2_closes 54 = .ok (.iconst 0, 1) := by decide +kernel
theorem dX2_closes_55 : decode cX2_closes 55 = .ok (.ireturn, 1) := by decide +kernel
def rmX2_closes : Room := { frames := 2, cells := 0, slots := 0, locals := 44 }
def lpX2_closes_4 (M : zM) (o0 : Nat) (K4_33 : Int32 → Int32 → Prop) : Nat → Int32 → Int32 → Prop
  | 0, _, _ => False
  | fu4 + 1, x3, x4 =>
    (((M o0 0) ≤ x4) → (
    K4_33 x3 x4)) ∧
    ((¬ (M o0 0) ≤ x4) → (
    wX2_wish M o0 x4 (fun r8 =>
    vp_in x4 12 ∧
    ∀ x9 : Int32, x9 = x4 + (1 : Int32) →
    lpX2_closes_4 M o0 K4_33 fu4 (x3 + (r8 - (M (o0 + 2) x4.toNatClampNeg))) x9)))
def wX2_closes (M : zM) (o0 : Nat) (Q : Int32 → Prop) : Prop :=
    ∃ fu4 : Nat, lpX2_closes_4 M o0 (fun x5 x6 =>
    ((¬ x5 = 0) → (
    Q (0 : Int32))) ∧
    ((x5 = 0) → (
    wX2_secondSum M o0 ((M o0 0) - (1 : Int32)) (fun r7 =>
    ((¬ r7 = 0) → (
    Q (0 : Int32))) ∧
    ((r7 = 0) → (
    Q (1 : Int32))))))) fu4 (0 : Int32) (0 : Int32)
set_option maxHeartbeats 4000000 in
set_option maxRecDepth 100000 in
theorem kX2_closes {l : Launch} {D : va_G} {Y : zY} {ad kd : Nat → Nat} {RL : List Nat} {M : zM} {J : zL} {o0 : Nat} (h_o0 : kd o0 = 2) {Q : Int32 → Prop} (hq : wX2_closes M o0 Q) : zCi l yX2_closes wsX2_closes rmX2_closes [.ref (ad o0)] D Y ad kd RL M J (fun r M' J' => Q r ∧ M = M' ∧ J = J') := by
  refine z_meti (cc := cX2_closes) (maxL := 3) (ret := (some .boolean)) (by decide) rfl (Nat.le_of_ble_eq_true rfl) ?_
  intro p e s m below meth c ls A ar QE hQE hx hb hr hml hown hts hlk hw hl
  have hown : s.vm.findClass RX2 = some m.cls := hown
  have hl : lv_has ls 3 [(0, .ref (ad o0))] := hl
  have hC := hw.2.2.2.2.2.1
  have g2 : ∀ w ∈ wsX20, w.before ar s = true := (fun w h => hts w (List.mem_cons_of_mem _ (List.mem_append_right _ h)))
  have q1 := hts _ (List.mem_of_getElem? (i := 1) rfl)
  have q2 := hts _ (List.mem_of_getElem? (i := 2) rfl)
  unfold wX2_closes at hq
  refine lv_iconst (v := (0 : Int32)) hx hb dX2_closes_0 (by decide) ?_
  refine lv_istore_n (lv' := [(1, .int (0 : Int32)), (0, .ref (ad o0))]) hx hb dX2_closes_1 rfl hl (by decide) rfl (fun ls hl => ?_)
  refine lv_iconst (v := (0 : Int32)) hx hb dX2_closes_2 (by decide) ?_
  refine lv_istore_n (lv' := [(2, .int (0 : Int32)), (1, .int (0 : Int32)), (0, .ref (ad o0))]) hx hb dX2_closes_3 rfl hl (by decide) rfl (fun ls hl => ?_)
  have ex4_33 : ∀ (x5 : Int32) (x6 : Int32) (H : Heap) (locs : List Loc) (ls : Array Slot), (((¬ x5 = 0) → ( Q (0 : Int32))) ∧ ((x5 = 0) → ( wX2_secondSum M o0 ((M o0 0) - (1 : Int32)) (fun r7 => ((¬ r7 = 0) → ( Q (0 : Int32))) ∧ ((r7 = 0) → ( Q (1 : Int32))))))) → zH D Y ad kd RL M J A s.heap H locs s → lv_has ls 3 [(0, .ref (ad o0)), (1, .int x5)] → W p l e rmX2_closes s m ar below meth c H locs 0 0 QE (F0 m 33 ls []) := by
    intro x5 x6 H locs ls hq hw hl
    refine lv_iload_n hx hb dX2_closes_33 rfl (lv_at hl 1 rfl) ?_
    refine lv_if_ne (tgt := 54) hx hb dX2_closes_34 (by decide) (fun hc => ?_) (fun hc => ?_)
    · have hq := hq.1 hc
      refine lv_iconst (v := (0 : Int32)) hx hb dX2_closes_54 (by decide) ?_
      exact z_zret hQE hx hb hr hlk hw dX2_closes_55 (by decide) ⟨hq, rfl, rfl⟩
    · have hq := hq.2 hc
      refine lv_aload_n hx hb dX2_closes_37 rfl (lv_at hl 0 rfl) ?_
      refine lv_aload_n hx hb dX2_closes_38 rfl (lv_at hl 0 rfl) ?_
      refine zg2_pegs hx hb g2 hown hw h_o0 q1 dX2_closes_39 ?_
      refine lv_iconst (v := (1 : Int32)) hx hb dX2_closes_42 (by decide) ?_
      refine lv_isub hx hb dX2_closes_43 ?_
      refine z_cvi ⟨hx, hb, hml, hown, hts⟩ hw h_o0 (kX2_secondSum h_o0 hq) (by decide) rfl (cwV 1 hts gX2_closes_X2_secondSum rfl rfl rfl (by decide +kernel) ⟨Nat.le_of_ble_eq_true rfl, Nat.le_of_ble_eq_true rfl⟩) rfl hl.1 rfl (Nat.le_of_ble_eq_true rfl) dX2_closes_44 ⟨Nat.zero_le _, Nat.zero_le _⟩ (fun r7 M0 J0 H locs hq hw => ?_)
      obtain ⟨hq, rfl, rfl⟩ := hq
      refine lv_if_ne (tgt := 54) hx hb dX2_closes_47 (by decide) (fun hc => ?_) (fun hc => ?_)
      · have hq := hq.1 hc
        refine lv_iconst (v := (0 : Int32)) hx hb dX2_closes_54 (by decide) ?_
        exact z_zret hQE hx hb hr hlk hw dX2_closes_55 (by decide) ⟨hq, rfl, rfl⟩
      · have hq := hq.2 hc
        refine lv_iconst (v := (1 : Int32)) hx hb dX2_closes_50 (by decide) ?_
        refine lv_goto (tgt := 55) hx hb dX2_closes_51 (by decide) ?_
        exact z_zret hQE hx hb hr hlk hw dX2_closes_55 (by decide) ⟨hq, rfl, rfl⟩
  obtain ⟨fu4, hq⟩ := hq
  have lp4 : ∀ (fu4 : Nat) (x3 : Int32) (x4 : Int32) (H : Heap) (locs : List Loc) (ls : Array Slot), lpX2_closes_4 M o0 (fun x5 x6 => ((¬ x5 = 0) → ( Q (0 : Int32))) ∧ ((x5 = 0) → ( wX2_secondSum M o0 ((M o0 0) - (1 : Int32)) (fun r7 => ((¬ r7 = 0) → ( Q (0 : Int32))) ∧ ((r7 = 0) → ( Q (1 : Int32))))))) fu4 x3 x4 → zH D Y ad kd RL M J A s.heap H locs s → lv_has ls 3 [(0, .ref (ad o0)), (1, .int x3), (2, .int x4)] → W p l e rmX2_closes s m ar below meth c H locs 0 0 QE (F0 m 4 ls []) := by
    intro fu4
    induction fu4 with
    | zero => intro x3 x4 H locs ls hq; exact hq.elim
    | succ fu4 ih4 =>
      intro x3 x4 H locs ls hq hw hl
      unfold lpX2_closes_4 at hq
      refine lv_iload_n hx hb dX2_closes_4 rfl (lv_at hl 2 rfl) ?_
      refine lv_aload_n hx hb dX2_closes_5 rfl (lv_at hl 0 rfl) ?_
      refine zg2_pegs hx hb g2 hown hw h_o0 q1 dX2_closes_6 ?_
      refine lv_icmp_ge (tgt := 33) hx hb dX2_closes_9 (by decide) (fun hc => ?_) (fun hc => ?_)
      · have hq := hq.1 hc
        exact ex4_33 x3 x4 _ _ _ hq hw (lv_sub hl [0, 1] rfl)
      · have hq := hq.2 hc
        refine lv_iload_n hx hb dX2_closes_12 rfl (lv_at hl 1 rfl) ?_
        refine lv_aload_n hx hb dX2_closes_13 rfl (lv_at hl 0 rfl) ?_
        refine lv_iload_n hx hb dX2_closes_14 rfl (lv_at hl 2 rfl) ?_
        refine z_cvi ⟨hx, hb, hml, hown, hts⟩ hw h_o0 (kX2_wish h_o0 hq) (by decide) rfl (cwV 1 hts gX2_closes_X2_wish rfl rfl rfl (by decide +kernel) ⟨Nat.le_of_ble_eq_true rfl, Nat.le_of_ble_eq_true rfl⟩) rfl hl.1 rfl (Nat.le_of_ble_eq_true rfl) dX2_closes_15 ⟨Nat.zero_le _, Nat.zero_le _⟩ (fun r8 M0 J0 H locs hq hw => ?_)
        obtain ⟨hq, rfl, rfl⟩ := hq
        refine lv_aload_n hx hb dX2_closes_18 rfl (lv_at hl 0 rfl) ?_
        refine zg2_versines hx hb g2 hown hw h_o0 q2 dX2_closes_19 ?_
        refine lv_iload_n hx hb dX2_closes_22 rfl (lv_at hl 2 rfl) ?_
        obtain ⟨hi, hq⟩ := hq
        refine z_iald (n := 12) hx hb hw (zk_2_2 hC h_o0) hi dX2_closes_23 ?_
        refine lv_isub hx hb dX2_closes_24 ?_
        refine lv_iadd hx hb dX2_closes_25 ?_
        refine lv_istore_n (lv' := [(1, .int (x3 + (r8 - (M (o0 + 2) x4.toNatClampNeg)))), (0, .ref (ad o0)), (2, .int x4)]) hx hb dX2_closes_26 rfl hl (by decide) rfl (fun ls hl => ?_)
        obtain ⟨x9, e_x9⟩ : ∃ y : Int32, y = x4 + (1 : Int32) := ⟨_, rfl⟩
        have hq := hq x9 e_x9
        refine lv_iinc (v := x9) (lv' := [(2, .int x9), (1, .int (x3 + (r8 - (M (o0 + 2) x4.toNatClampNeg)))), (0, .ref (ad o0))]) hx hb dX2_closes_27 hl (k := 2) rfl (by rw [e_x9]; rfl) (by decide) rfl (fun ls hl => ?_)
        refine lv_goto (tgt := 4) hx hb dX2_closes_30 (by decide) ?_
        exact ih4 (x3 + (r8 - (M (o0 + 2) x4.toNatClampNeg))) x9 _ _ _ hq hw (lv_sub hl [2, 1, 0] rfl)
  exact lp4 fu4 (0 : Int32) (0 : Int32) _ _ _ hq hw (lv_sub hl [2, 1, 0] rfl)
set_option maxRecDepth 20000 in
theorem ggX2_misread_X2_step : GoodIn wsX2_misread wsX2_step := goodIn_r _ [7, 8, 9, 10, 11, 12, 13, 14, 6, 15, 1, 16, 17, 18, 19, 20, 2, 21, 22, 23, 24, 25, 26, 27, 28, 29, 30, 31] (by decide +kernel) (by decide +kernel)
set_option maxRecDepth 20000 in
theorem gX2_misread_X2_step : GoodIn wsX2_misread (wsV RX2 60 RX2 yX2_step wsX2_step) := goodIn_app (goodIn_of _ (by decide +kernel)) ggX2_misread_X2_step
theorem dX2_misread_0 : decode cX2_misread 0 = .ok (.iconst (-1), 1) := by decide +kernel
theorem dX2_misread_1 : decode cX2_misread 1 = .ok (.istore_n 1, 1) := by decide +kernel
theorem dX2_misread_2 : decode cX2_misread 2 = .ok (.iconst 0, 1) := by decide +kernel
theorem dX2_misread_3 : decode cX2_misread 3 = .ok (.istore_n 2, 1) := by decide +kernel
theorem dX2_misread_4 : decode cX2_misread 4 = .ok (.iconst 0, 1) := by decide +kernel
theorem dX2_misread_5 : decode cX2_misread 5 = .ok (.istore_n 3, 1) := by decide +kernel
theorem dX2_misread_6 : decode cX2_misread 6 = .ok (.iload_n 3, 1) := by decide +kernel
theorem dX2_misread_7 : decode cX2_misread 7 = .ok (.aload_n 0, 1) := by decide +kernel
theorem dX2_misread_8 : decode cX2_misread 8 = .ok (.getfield 9, 3) := by decide +kernel
theorem dX2_misread_11 : decode cX2_misread 11 = .ok (.if_icmp .ge 99, 3) := by decide +kernel
theorem dX2_misread_14 : decode cX2_misread 14 = .ok (.aload_n 0, 1) := by decide +kernel
theorem dX2_misread_15 : decode cX2_misread 15 = .ok (.getfield 22, 3) := by decide +kernel
theorem dX2_misread_18 : decode cX2_misread 18 = .ok (.iload_n 3, 1) := by decide +kernel
theorem dX2_misread_19 : decode cX2_misread 19 = .ok (.iaload, 1) := by decide +kernel
theorem dX2_misread_20 : decode cX2_misread 20 = .ok (.istore 4, 2) := by decide +kernel
theorem dX2_misread_22 : decode cX2_misread 22 = .ok (.aload_n 0, 1) := by decide +kernel
theorem dX2_misread_23 : decode cX2_misread 23 = .ok (.iload_n 3, 1) := by decide +kernel
theorem dX2_misread_24 : decode cX2_misread 24 = .ok (.iconst 1, 1) := by decide +kernel
theorem dX2_misread_25 : decode cX2_misread 25 = .ok (.isub, 1) := by decide +kernel
theorem dX2_misread_26 : decode cX2_misread 26 = .ok (.invokevirtual 60, 3) := by decide +kernel
theorem dX2_misread_29 : decode cX2_misread 29 = .ok (.aload_n 0, 1) := by decide +kernel
theorem dX2_misread_30 : decode cX2_misread 30 = .ok (.iload_n 3, 1) := by decide +kernel
theorem dX2_misread_31 : decode cX2_misread 31 = .ok (.invokevirtual 60, 3) := by decide +kernel
theorem dX2_misread_34 : decode cX2_misread 34 = .ok (.iadd, 1) := by decide +kernel
theorem dX2_misread_35 : decode cX2_misread 35 = .ok (.istore 5, 2) := by decide +kernel
theorem dX2_misread_37 : decode cX2_misread 37 = .ok (.iconst 0, 1) := by decide +kernel
theorem dX2_misread_38 : decode cX2_misread 38 = .ok (.istore 6, 2) := by decide +kernel
theorem dX2_misread_40 : decode cX2_misread 40 = .ok (.iload 6, 2) := by decide +kernel
theorem dX2_misread_42 : decode cX2_misread 42 = .ok (.bipush 60, 2) := by decide +kernel
theorem dX2_misread_44 : decode cX2_misread 44 = .ok (.if_icmp .gt 52, 3) := by decide +kernel
theorem dX2_misread_47 : decode cX2_misread 47 = .ok (.aload_n 0, 1) := by decide +kernel
theorem dX2_misread_48 : decode cX2_misread 48 = .ok (.getfield 22, 3) := by decide +kernel
theorem dX2_misread_51 : decode cX2_misread 51 = .ok (.iload_n 3, 1) := by decide +kernel
theorem dX2_misread_52 : decode cX2_misread 52 = .ok (.iload 6, 2) := by decide +kernel
theorem dX2_misread_54 : decode cX2_misread 54 = .ok (.iastore, 1) := by decide +kernel
theorem dX2_misread_55 : decode cX2_misread 55 = .ok (.iload 5, 2) := by decide +kernel
theorem dX2_misread_57 : decode cX2_misread 57 = .ok (.aload_n 0, 1) := by decide +kernel
theorem dX2_misread_58 : decode cX2_misread 58 = .ok (.iload_n 3, 1) := by decide +kernel
theorem dX2_misread_59 : decode cX2_misread 59 = .ok (.iconst 1, 1) := by decide +kernel
theorem dX2_misread_60 : decode cX2_misread 60 = .ok (.isub, 1) := by decide +kernel
theorem dX2_misread_61 : decode cX2_misread 61 = .ok (.invokevirtual 60, 3) := by decide +kernel
theorem dX2_misread_64 : decode cX2_misread 64 = .ok (.isub, 1) := by decide +kernel
theorem dX2_misread_65 : decode cX2_misread 65 = .ok (.aload_n 0, 1) := by decide +kernel
theorem dX2_misread_66 : decode cX2_misread 66 = .ok (.iload_n 3, 1) := by decide +kernel
theorem dX2_misread_67 : decode cX2_misread 67 = .ok (.invokevirtual 60, 3) := by decide +kernel
theorem dX2_misread_70 : decode cX2_misread 70 = .ok (.isub, 1) := by decide +kernel
theorem dX2_misread_71 : decode cX2_misread 71 = .ok (.istore 7, 2) := by decide +kernel
theorem dX2_misread_73 : decode cX2_misread 73 = .ok (.iload 7, 2) := by decide +kernel
theorem dX2_misread_75 : decode cX2_misread 75 = .ok (.iload_n 2, 1) := by decide +kernel
theorem dX2_misread_76 : decode cX2_misread 76 = .ok (.if_icmp .le 14, 3) := by decide +kernel
theorem dX2_misread_79 : decode cX2_misread 79 = .ok (.iload 7, 2) := by decide +kernel
theorem dX2_misread_81 : decode cX2_misread 81 = .ok (.istore_n 2, 1) := by decide +kernel
theorem dX2_misread_82 : decode cX2_misread 82 = .ok (.iload_n 3, 1) := by decide +kernel
theorem dX2_misread_83 : decode cX2_misread 83 = .ok (.bipush 64, 2) := by decide +kernel
theorem dX2_misread_85 : decode cX2_misread 85 = .ok (.imul, 1) := by decide +kernel
theorem dX2_misread_86 : decode cX2_misread 86 = .ok (.iload 6, 2) := by decide +kernel
theorem dX2_misread_88 : decode cX2_misread 88 = .ok (.iadd, 1) := by decide +kernel
theorem dX2_misread_89 : decode cX2_misread 89 = .ok (.istore_n 1, 1) := by decide +kernel
theorem dX2_misread_90 : decode cX2_misread 90 = .ok (.iinc 6 1, 3) := by decide +kernel
theorem dX2_misread_93 : decode cX2_misread 93 = .ok (.goto (-53), 3) := by decide +kernel
theorem dX2_misread_96 : decode cX2_misread 96 = .ok (.aload_n 0, 1) := by decide +kernel
theorem dX2_misread_97 : decode cX2_misread 97 = .ok (.getfield 22, 3) := by decide +kernel
theorem dX2_misread_100 : decode cX2_misread 100 = .ok (.iload_n 3, 1) := by decide +kernel
theorem dX2_misread_101 : decode cX2_misread 101 = .ok (.iload 4, 2) := by decide +kernel
theorem dX2_misread_103 : decode cX2_misread 103 = .ok (.iastore, 1) := by decide +kernel
theorem dX2_misread_104 : decode cX2_misread 104 = .ok (.iinc 3 1, 3) := by decide +kernel
theorem dX2_misread_107 : decode cX2_misread 107 = .ok (.goto (-101), 3) := by decide +kernel
theorem dX2_misread_110 : decode cX2_misread 110 = .ok (.iload_n 1, 1) := by decide +kernel
theorem dX2_misread_111 : decode cX2_misread 111 = .ok (.ireturn, 1) := by decide +kernel
def rmX2_misread : Room := { frames := 3, cells := 0, slots := 0, locals := 63 }
def lpX2_misread_40 (o0 : Nat) (x5 : Int32) (r7 : Int32) (r8 : Int32) (K40_96 : Int32 → Int32 → Int32 → zM → Prop) : Nat → Int32 → Int32 → Int32 → zM → Prop
  | 0, _, _, _, _ => False
  | fu40 + 1, x9, x10, x11, M12 =>
    (((60 : Int32) < x11) → (
    K40_96 x9 x10 x11 M12)) ∧
    ((¬ (60 : Int32) < x11) → (
    vp_in x5 12 ∧
    ∀ M19 : zM, M19 = va_up M12 (o0 + 2) (upd (M12 (o0 + 2)) x5.toNatClampNeg x11) →
    wX2_step M19 o0 (x5 - (1 : Int32)) (fun r20 =>
    wX2_step M19 o0 x5 (fun r21 =>
    (((((r7 + r8) - r20) - r21) ≤ x10) → (
    ∀ x22 : Int32, x22 = x11 + (1 : Int32) →
    lpX2_misread_40 o0 x5 r7 r8 K40_96 fu40 x9 x10 x22 M19)) ∧
    ((¬ (((r7 + r8) - r20) - r21) ≤ x10) → (
    ∀ x23 : Int32, x23 = x11 + (1 : Int32) →
    lpX2_misread_40 o0 x5 r7 r8 K40_96 fu40 ((x5 * (64 : Int32)) + x11) (((r7 + r8) - r20) - r21) x23 M19))))))
def lpX2_misread_6 (o0 : Nat) (Q : Int32 → zM → Prop) : Nat → Int32 → Int32 → Int32 → zM → Prop
  | 0, _, _, _, _ => False
  | fu6 + 1, x3, x4, x5, M6 =>
    (((M6 o0 0) ≤ x5) → (
    Q x3 M6)) ∧
    ((¬ (M6 o0 0) ≤ x5) → (
    vp_in x5 12 ∧
    wX2_step M6 o0 (x5 - (1 : Int32)) (fun r7 =>
    wX2_step M6 o0 x5 (fun r8 =>
    ∃ fu40 : Nat, lpX2_misread_40 o0 x5 r7 r8 (fun x13 x14 x15 M16 =>
    vp_in x5 12 ∧
    ∀ M17 : zM, M17 = va_up M16 (o0 + 2) (upd (M16 (o0 + 2)) x5.toNatClampNeg (M6 (o0 + 2) x5.toNatClampNeg)) →
    ∀ x18 : Int32, x18 = x5 + (1 : Int32) →
    lpX2_misread_6 o0 Q fu6 x13 x14 x18 M17) fu40 x3 x4 (0 : Int32) M6))))
def wX2_misread (M : zM) (o0 : Nat) (Q : Int32 → zM → Prop) : Prop :=
    ∃ fu6 : Nat, lpX2_misread_6 o0 Q fu6 (-1 : Int32) (0 : Int32) (0 : Int32) M
set_option maxHeartbeats 4000000 in
set_option maxRecDepth 100000 in
theorem kX2_misread {l : Launch} {D : va_G} {Y : zY} {ad kd : Nat → Nat} {RL : List Nat} {M : zM} {J : zL} {o0 : Nat} (h_o0 : kd o0 = 2) {Q : Int32 → zM → Prop} (hq : wX2_misread M o0 Q) : zCi l yX2_misread wsX2_misread rmX2_misread [.ref (ad o0)] D Y ad kd RL M J (fun r M' J' => Q r M' ∧ J = J') := by
  refine z_meti (cc := cX2_misread) (maxL := 8) (ret := (some .int)) (by decide) rfl (Nat.le_of_ble_eq_true rfl) ?_
  intro p e s m below meth c ls A ar QE hQE hx hb hr hml hown hts hlk hw hl
  have hown : s.vm.findClass RX2 = some m.cls := hown
  have hl : lv_has ls 8 [(0, .ref (ad o0))] := hl
  have hC := hw.2.2.2.2.2.1
  have g2 : ∀ w ∈ wsX20, w.before ar s = true := (fun w h => hts w (List.mem_cons_of_mem _ (List.mem_append_right _ h)))
  have q1 := hts _ (List.mem_of_getElem? (i := 1) rfl)
  have q2 := hts _ (List.mem_of_getElem? (i := 2) rfl)
  unfold wX2_misread at hq
  refine lv_iconst (v := (-1 : Int32)) hx hb dX2_misread_0 (by decide) ?_
  refine lv_istore_n (lv' := [(1, .int (-1 : Int32)), (0, .ref (ad o0))]) hx hb dX2_misread_1 rfl hl (by decide) rfl (fun ls hl => ?_)
  refine lv_iconst (v := (0 : Int32)) hx hb dX2_misread_2 (by decide) ?_
  refine lv_istore_n (lv' := [(2, .int (0 : Int32)), (1, .int (-1 : Int32)), (0, .ref (ad o0))]) hx hb dX2_misread_3 rfl hl (by decide) rfl (fun ls hl => ?_)
  refine lv_iconst (v := (0 : Int32)) hx hb dX2_misread_4 (by decide) ?_
  refine lv_istore_n (lv' := [(3, .int (0 : Int32)), (2, .int (0 : Int32)), (1, .int (-1 : Int32)), (0, .ref (ad o0))]) hx hb dX2_misread_5 rfl hl (by decide) rfl (fun ls hl => ?_)
  obtain ⟨fu6, hq⟩ := hq
  have lp6 : ∀ (fu6 : Nat) (x3 : Int32) (x4 : Int32) (x5 : Int32) (M6 : zM) (H : Heap) (locs : List Loc) (ls : Array Slot), lpX2_misread_6 o0 Q fu6 x3 x4 x5 M6 → zH D Y ad kd RL M6 J A s.heap H locs s → lv_has ls 8 [(0, .ref (ad o0)), (1, .int x3), (2, .int x4), (3, .int x5)] → W p l e rmX2_misread s m ar below meth c H locs 0 0 QE (F0 m 6 ls []) := by
    intro fu6
    induction fu6 with
    | zero => intro x3 x4 x5 M6 H locs ls hq; exact hq.elim
    | succ fu6 ih6 =>
      intro x3 x4 x5 M6 H locs ls hq hw hl
      unfold lpX2_misread_6 at hq
      refine lv_iload_n hx hb dX2_misread_6 rfl (lv_at hl 3 rfl) ?_
      refine lv_aload_n hx hb dX2_misread_7 rfl (lv_at hl 0 rfl) ?_
      refine zg2_pegs hx hb g2 hown hw h_o0 q1 dX2_misread_8 ?_
      refine lv_icmp_ge (tgt := 110) hx hb dX2_misread_11 (by decide) (fun hc => ?_) (fun hc => ?_)
      · have hq := hq.1 hc
        refine lv_iload_n hx hb dX2_misread_110 rfl (lv_at hl 1 rfl) ?_
        exact z_iret hQE hx hb hr hlk hw dX2_misread_111 ⟨hq, rfl⟩
      · have hq := hq.2 hc
        refine lv_aload_n hx hb dX2_misread_14 rfl (lv_at hl 0 rfl) ?_
        refine zg2_versines hx hb g2 hown hw h_o0 q2 dX2_misread_15 ?_
        refine lv_iload_n hx hb dX2_misread_18 rfl (lv_at hl 3 rfl) ?_
        obtain ⟨hi, hq⟩ := hq
        refine z_iald (n := 12) hx hb hw (zk_2_2 hC h_o0) hi dX2_misread_19 ?_
        refine lv_istore (lv' := [(4, .int (M6 (o0 + 2) x5.toNatClampNeg)), (0, .ref (ad o0)), (1, .int x3), (2, .int x4), (3, .int x5)]) hx hb dX2_misread_20 hl (by decide) rfl (fun ls hl => ?_)
        refine lv_aload_n hx hb dX2_misread_22 rfl (lv_at hl 1 rfl) ?_
        refine lv_iload_n hx hb dX2_misread_23 rfl (lv_at hl 4 rfl) ?_
        refine lv_iconst (v := (1 : Int32)) hx hb dX2_misread_24 (by decide) ?_
        refine lv_isub hx hb dX2_misread_25 ?_
        refine z_cvi ⟨hx, hb, hml, hown, hts⟩ hw h_o0 (kX2_step h_o0 hq) (by decide) rfl (cwV 1 hts gX2_misread_X2_step rfl rfl rfl (by decide +kernel) ⟨Nat.le_of_ble_eq_true rfl, Nat.le_of_ble_eq_true rfl⟩) rfl hl.1 rfl (Nat.le_of_ble_eq_true rfl) dX2_misread_26 ⟨Nat.zero_le _, Nat.zero_le _⟩ (fun r7 M0 J0 H locs hq hw => ?_)
        obtain ⟨hq, rfl, rfl⟩ := hq
        refine lv_aload_n hx hb dX2_misread_29 rfl (lv_at hl 1 rfl) ?_
        refine lv_iload_n hx hb dX2_misread_30 rfl (lv_at hl 4 rfl) ?_
        refine z_cvi ⟨hx, hb, hml, hown, hts⟩ hw h_o0 (kX2_step h_o0 hq) (by decide) rfl (cwV 1 hts gX2_misread_X2_step rfl rfl rfl (by decide +kernel) ⟨Nat.le_of_ble_eq_true rfl, Nat.le_of_ble_eq_true rfl⟩) rfl hl.1 rfl (Nat.le_of_ble_eq_true rfl) dX2_misread_31 ⟨Nat.zero_le _, Nat.zero_le _⟩ (fun r8 M0 J0 H locs hq hw => ?_)
        obtain ⟨hq, rfl, rfl⟩ := hq
        refine lv_iadd hx hb dX2_misread_34 ?_
        refine lv_istore (lv' := [(5, .int (r7 + r8)), (4, .int (M6 (o0 + 2) x5.toNatClampNeg)), (0, .ref (ad o0)), (1, .int x3), (2, .int x4), (3, .int x5)]) hx hb dX2_misread_35 hl (by decide) rfl (fun ls hl => ?_)
        refine lv_iconst (v := (0 : Int32)) hx hb dX2_misread_37 (by decide) ?_
        refine lv_istore (lv' := [(6, .int (0 : Int32)), (5, .int (r7 + r8)), (4, .int (M6 (o0 + 2) x5.toNatClampNeg)), (0, .ref (ad o0)), (1, .int x3), (2, .int x4), (3, .int x5)]) hx hb dX2_misread_38 hl (by decide) rfl (fun ls hl => ?_)
        have ex40_96 : ∀ (x13 : Int32) (x14 : Int32) (x15 : Int32) (M16 : zM) (H : Heap) (locs : List Loc) (ls : Array Slot), (vp_in x5 12 ∧ ∀ M17 : zM, M17 = va_up M16 (o0 + 2) (upd (M16 (o0 + 2)) x5.toNatClampNeg (M6 (o0 + 2) x5.toNatClampNeg)) → ∀ x18 : Int32, x18 = x5 + (1 : Int32) → lpX2_misread_6 o0 Q fu6 x13 x14 x18 M17) → zH D Y ad kd RL M16 J A s.heap H locs s → lv_has ls 8 [(0, .ref (ad o0)), (1, .int x13), (2, .int x14), (3, .int x5), (4, .int (M6 (o0 + 2) x5.toNatClampNeg))] → W p l e rmX2_misread s m ar below meth c H locs 0 0 QE (F0 m 96 ls []) := by
          intro x13 x14 x15 M16 H locs ls hq hw hl
          refine lv_aload_n hx hb dX2_misread_96 rfl (lv_at hl 0 rfl) ?_
          refine zg2_versines hx hb g2 hown hw h_o0 q2 dX2_misread_97 ?_
          refine lv_iload_n hx hb dX2_misread_100 rfl (lv_at hl 3 rfl) ?_
          refine lv_iload hx hb dX2_misread_101 (lv_at hl 4 rfl) ?_
          obtain ⟨hi, hq⟩ := hq
          refine z_iast (n := 12) hx hb hw (zk_2_2 hC h_o0) hi dX2_misread_103 (fun H locs hw => ?_)
          obtain ⟨M17, e_M17⟩ : ∃ y : zM, y = va_up M16 (o0 + 2) (upd (M16 (o0 + 2)) x5.toNatClampNeg (M6 (o0 + 2) x5.toNatClampNeg)) := ⟨_, rfl⟩
          rw [← e_M17] at hw
          have hq := hq M17 e_M17
          obtain ⟨x18, e_x18⟩ : ∃ y : Int32, y = x5 + (1 : Int32) := ⟨_, rfl⟩
          have hq := hq x18 e_x18
          refine lv_iinc (v := x18) (lv' := [(3, .int x18), (0, .ref (ad o0)), (1, .int x13), (2, .int x14), (4, .int (M6 (o0 + 2) x5.toNatClampNeg))]) hx hb dX2_misread_104 hl (k := 3) rfl (by rw [e_x18]; rfl) (by decide) rfl (fun ls hl => ?_)
          refine lv_goto (tgt := 6) hx hb dX2_misread_107 (by decide) ?_
          exact ih6 x13 x14 x18 M17 _ _ _ hq hw (lv_sub hl [1, 2, 3, 0] rfl)
        obtain ⟨fu40, hq⟩ := hq
        have lp40 : ∀ (fu40 : Nat) (x9 : Int32) (x10 : Int32) (x11 : Int32) (M12 : zM) (H : Heap) (locs : List Loc) (ls : Array Slot), lpX2_misread_40 o0 x5 r7 r8 (fun x13 x14 x15 M16 => vp_in x5 12 ∧ ∀ M17 : zM, M17 = va_up M16 (o0 + 2) (upd (M16 (o0 + 2)) x5.toNatClampNeg (M6 (o0 + 2) x5.toNatClampNeg)) → ∀ x18 : Int32, x18 = x5 + (1 : Int32) → lpX2_misread_6 o0 Q fu6 x13 x14 x18 M17) fu40 x9 x10 x11 M12 → zH D Y ad kd RL M12 J A s.heap H locs s → lv_has ls 8 [(0, .ref (ad o0)), (1, .int x9), (2, .int x10), (3, .int x5), (4, .int (M6 (o0 + 2) x5.toNatClampNeg)), (5, .int (r7 + r8)), (6, .int x11)] → W p l e rmX2_misread s m ar below meth c H locs 0 0 QE (F0 m 40 ls []) := by
          intro fu40
          induction fu40 with
          | zero => intro x9 x10 x11 M12 H locs ls hq; exact hq.elim
          | succ fu40 ih40 =>
            intro x9 x10 x11 M12 H locs ls hq hw hl
            unfold lpX2_misread_40 at hq
            refine lv_iload hx hb dX2_misread_40 (lv_at hl 6 rfl) ?_
            refine lv_bipush (v := (60 : Int32)) hx hb dX2_misread_42 (by decide) ?_
            refine lv_icmp_gt (tgt := 96) hx hb dX2_misread_44 (by decide) (fun hc => ?_) (fun hc => ?_)
            · have hq := hq.1 hc
              exact ex40_96 x9 x10 x11 M12 _ _ _ hq hw (lv_sub hl [0, 1, 2, 3, 4] rfl)
            · have hq := hq.2 hc
              refine lv_aload_n hx hb dX2_misread_47 rfl (lv_at hl 0 rfl) ?_
              refine zg2_versines hx hb g2 hown hw h_o0 q2 dX2_misread_48 ?_
              refine lv_iload_n hx hb dX2_misread_51 rfl (lv_at hl 3 rfl) ?_
              refine lv_iload hx hb dX2_misread_52 (lv_at hl 6 rfl) ?_
              obtain ⟨hi, hq⟩ := hq
              refine z_iast (n := 12) hx hb hw (zk_2_2 hC h_o0) hi dX2_misread_54 (fun H locs hw => ?_)
              obtain ⟨M19, e_M19⟩ : ∃ y : zM, y = va_up M12 (o0 + 2) (upd (M12 (o0 + 2)) x5.toNatClampNeg x11) := ⟨_, rfl⟩
              rw [← e_M19] at hw
              have hq := hq M19 e_M19
              refine lv_iload hx hb dX2_misread_55 (lv_at hl 5 rfl) ?_
              refine lv_aload_n hx hb dX2_misread_57 rfl (lv_at hl 0 rfl) ?_
              refine lv_iload_n hx hb dX2_misread_58 rfl (lv_at hl 3 rfl) ?_
              refine lv_iconst (v := (1 : Int32)) hx hb dX2_misread_59 (by decide) ?_
              refine lv_isub hx hb dX2_misread_60 ?_
              refine z_cvi ⟨hx, hb, hml, hown, hts⟩ hw h_o0 (kX2_step h_o0 hq) (by decide) rfl (cwV 1 hts gX2_misread_X2_step rfl rfl rfl (by decide +kernel) ⟨Nat.le_of_ble_eq_true rfl, Nat.le_of_ble_eq_true rfl⟩) rfl hl.1 rfl (Nat.le_of_ble_eq_true rfl) dX2_misread_61 ⟨Nat.zero_le _, Nat.zero_le _⟩ (fun r20 M0 J0 H locs hq hw => ?_)
              obtain ⟨hq, rfl, rfl⟩ := hq
              refine lv_isub hx hb dX2_misread_64 ?_
              refine lv_aload_n hx hb dX2_misread_65 rfl (lv_at hl 0 rfl) ?_
              refine lv_iload_n hx hb dX2_misread_66 rfl (lv_at hl 3 rfl) ?_
              refine z_cvi ⟨hx, hb, hml, hown, hts⟩ hw h_o0 (kX2_step h_o0 hq) (by decide) rfl (cwV 1 hts gX2_misread_X2_step rfl rfl rfl (by decide +kernel) ⟨Nat.le_of_ble_eq_true rfl, Nat.le_of_ble_eq_true rfl⟩) rfl hl.1 rfl (Nat.le_of_ble_eq_true rfl) dX2_misread_67 ⟨Nat.zero_le _, Nat.zero_le _⟩ (fun r21 M0 J0 H locs hq hw => ?_)
              obtain ⟨hq, rfl, rfl⟩ := hq
              refine lv_isub hx hb dX2_misread_70 ?_
              refine lv_istore (lv' := [(7, .int (((r7 + r8) - r20) - r21)), (0, .ref (ad o0)), (1, .int x9), (2, .int x10), (3, .int x5), (4, .int (M6 (o0 + 2) x5.toNatClampNeg)), (5, .int (r7 + r8)), (6, .int x11)]) hx hb dX2_misread_71 hl (by decide) rfl (fun ls hl => ?_)
              refine lv_iload hx hb dX2_misread_73 (lv_at hl 0 rfl) ?_
              refine lv_iload_n hx hb dX2_misread_75 rfl (lv_at hl 3 rfl) ?_
              refine lv_icmp_le (tgt := 90) hx hb dX2_misread_76 (by decide) (fun hc => ?_) (fun hc => ?_)
              · have hq := hq.1 hc
                obtain ⟨x22, e_x22⟩ : ∃ y : Int32, y = x11 + (1 : Int32) := ⟨_, rfl⟩
                have hq := hq x22 e_x22
                refine lv_iinc (v := x22) (lv' := [(6, .int x22), (7, .int (((r7 + r8) - r20) - r21)), (0, .ref (ad o0)), (1, .int x9), (2, .int x10), (3, .int x5), (4, .int (M6 (o0 + 2) x5.toNatClampNeg)), (5, .int (r7 + r8))]) hx hb dX2_misread_90 hl (k := 7) rfl (by rw [e_x22]; rfl) (by decide) rfl (fun ls hl => ?_)
                refine lv_goto (tgt := 40) hx hb dX2_misread_93 (by decide) ?_
                exact ih40 x9 x10 x22 M19 _ _ _ hq hw (lv_sub hl [2, 3, 4, 5, 6, 7, 0] rfl)
              · have hq := hq.2 hc
                refine lv_iload hx hb dX2_misread_79 (lv_at hl 0 rfl) ?_
                refine lv_istore_n (lv' := [(2, .int (((r7 + r8) - r20) - r21)), (7, .int (((r7 + r8) - r20) - r21)), (0, .ref (ad o0)), (1, .int x9), (3, .int x5), (4, .int (M6 (o0 + 2) x5.toNatClampNeg)), (5, .int (r7 + r8)), (6, .int x11)]) hx hb dX2_misread_81 rfl hl (by decide) rfl (fun ls hl => ?_)
                refine lv_iload_n hx hb dX2_misread_82 rfl (lv_at hl 4 rfl) ?_
                refine lv_bipush (v := (64 : Int32)) hx hb dX2_misread_83 (by decide) ?_
                refine lv_imul hx hb dX2_misread_85 ?_
                refine lv_iload hx hb dX2_misread_86 (lv_at hl 7 rfl) ?_
                refine lv_iadd hx hb dX2_misread_88 ?_
                refine lv_istore_n (lv' := [(1, .int ((x5 * (64 : Int32)) + x11)), (2, .int (((r7 + r8) - r20) - r21)), (7, .int (((r7 + r8) - r20) - r21)), (0, .ref (ad o0)), (3, .int x5), (4, .int (M6 (o0 + 2) x5.toNatClampNeg)), (5, .int (r7 + r8)), (6, .int x11)]) hx hb dX2_misread_89 rfl hl (by decide) rfl (fun ls hl => ?_)
                obtain ⟨x23, e_x23⟩ : ∃ y : Int32, y = x11 + (1 : Int32) := ⟨_, rfl⟩
                have hq := hq x23 e_x23
                refine lv_iinc (v := x23) (lv' := [(6, .int x23), (1, .int ((x5 * (64 : Int32)) + x11)), (2, .int (((r7 + r8) - r20) - r21)), (7, .int (((r7 + r8) - r20) - r21)), (0, .ref (ad o0)), (3, .int x5), (4, .int (M6 (o0 + 2) x5.toNatClampNeg)), (5, .int (r7 + r8))]) hx hb dX2_misread_90 hl (k := 7) rfl (by rw [e_x23]; rfl) (by decide) rfl (fun ls hl => ?_)
                refine lv_goto (tgt := 40) hx hb dX2_misread_93 (by decide) ?_
                exact ih40 ((x5 * (64 : Int32)) + x11) (((r7 + r8) - r20) - r21) x23 M19 _ _ _ hq hw (lv_sub hl [4, 1, 2, 5, 6, 7, 0] rfl)
        exact lp40 fu40 x3 x4 (0 : Int32) M6 _ _ _ hq hw (lv_sub hl [3, 4, 5, 6, 2, 1, 0] rfl)
  exact lp6 fu6 (-1 : Int32) (0 : Int32) (0 : Int32) M _ _ _ hq hw (lv_sub hl [3, 2, 1, 0] rfl)
set_option maxRecDepth 20000 in
theorem ggX2_passYears_X2_reach : GoodIn wsX2_passYears wsX2_reach := goodIn_r _ [14, 1, 15, 16, 17, 18, 7, 19, 52, 53, 54, 55, 56, 57] (by decide +kernel) (by decide +kernel)
set_option maxRecDepth 20000 in
theorem gX2_passYears_X2_reach : GoodIn wsX2_passYears (wsV RX2 78 RX2 yX2_reach wsX2_reach) := goodIn_app (goodIn_of _ (by decide +kernel)) ggX2_passYears_X2_reach
set_option maxRecDepth 20000 in
theorem ggX2_passYears_X2_workIn : GoodIn wsX2_passYears wsX2_workIn := goodIn_r _ [23, 1, 9, 24, 25, 26, 7, 27, 17, 18, 19, 28, 29, 30, 13, 31, 32, 33, 34, 35, 36, 37, 38, 39, 15, 40, 41, 42, 43, 44, 45, 46, 47, 48, 49, 50, 51, 52, 53, 54, 55, 56, 57] (by decide +kernel) (by decide +kernel)
set_option maxRecDepth 20000 in
theorem gX2_passYears_X2_workIn : GoodIn wsX2_passYears (wsV RX2 96 RX2 yX2_workIn wsX2_workIn) := goodIn_app (goodIn_of _ (by decide +kernel)) ggX2_passYears_X2_workIn
theorem dX2_passYears_0 : decode cX2_passYears 0 = .ok (.iload_n 2, 1) := by decide +kernel
theorem dX2_passYears_1 : decode cX2_passYears 1 = .ok (.i2l, 1) := by decide +kernel
theorem dX2_passYears_2 : decode cX2_passYears 2 = .ok (.lstore_n 3, 1) := by decide +kernel
theorem dX2_passYears_3 : decode cX2_passYears 3 = .ok (.iconst 0, 1) := by decide +kernel
theorem dX2_passYears_4 : decode cX2_passYears 4 = .ok (.istore 5, 2) := by decide +kernel
theorem dX2_passYears_6 : decode cX2_passYears 6 = .ok (.iconst 1, 1) := by decide +kernel
theorem dX2_passYears_7 : decode cX2_passYears 7 = .ok (.istore 6, 2) := by decide +kernel
theorem dX2_passYears_9 : decode cX2_passYears 9 = .ok (.iload 6, 2) := by decide +kernel
theorem dX2_passYears_11 : decode cX2_passYears 11 = .ok (.iload_n 1, 1) := by decide +kernel
theorem dX2_passYears_12 : decode cX2_passYears 12 = .ok (.if_icmp .gt 83, 3) := by decide +kernel
theorem dX2_passYears_15 : decode cX2_passYears 15 = .ok (.aload_n 0, 1) := by decide +kernel
theorem dX2_passYears_16 : decode cX2_passYears 16 = .ok (.getfield 9, 3) := by decide +kernel
theorem dX2_passYears_19 : decode cX2_passYears 19 = .ok (.ifCond .le 76, 3) := by decide +kernel
theorem dX2_passYears_22 : decode cX2_passYears 22 = .ok (.lload_n 3, 1) := by decide +kernel
theorem dX2_passYears_23 : decode cX2_passYears 23 = .ok (.ldc2_w 90, 3) := by decide +kernel
theorem dX2_passYears_26 : decode cX2_passYears 26 = .ok (.lmul, 1) := by decide +kernel
theorem dX2_passYears_27 : decode cX2_passYears 27 = .ok (.ldc2_w 92, 3) := by decide +kernel
theorem dX2_passYears_30 : decode cX2_passYears 30 = .ok (.lrem, 1) := by decide +kernel
theorem dX2_passYears_31 : decode cX2_passYears 31 = .ok (.lstore_n 3, 1) := by decide +kernel
theorem dX2_passYears_32 : decode cX2_passYears 32 = .ok (.lload_n 3, 1) := by decide +kernel
theorem dX2_passYears_33 : decode cX2_passYears 33 = .ok (.aload_n 0, 1) := by decide +kernel
theorem dX2_passYears_34 : decode cX2_passYears 34 = .ok (.getfield 9, 3) := by decide +kernel
theorem dX2_passYears_37 : decode cX2_passYears 37 = .ok (.i2l, 1) := by decide +kernel
theorem dX2_passYears_38 : decode cX2_passYears 38 = .ok (.lrem, 1) := by decide +kernel
theorem dX2_passYears_39 : decode cX2_passYears 39 = .ok (.l2i, 1) := by decide +kernel
theorem dX2_passYears_40 : decode cX2_passYears 40 = .ok (.istore 7, 2) := by decide +kernel
theorem dX2_passYears_42 : decode cX2_passYears 42 = .ok (.lload_n 3, 1) := by decide +kernel
theorem dX2_passYears_43 : decode cX2_passYears 43 = .ok (.ldc2_w 94, 3) := by decide +kernel
theorem dX2_passYears_46 : decode cX2_passYears 46 = .ok (.lrem, 1) := by decide +kernel
theorem dX2_passYears_47 : decode cX2_passYears 47 = .ok (.l2i, 1) := by decide +kernel
theorem dX2_passYears_48 : decode cX2_passYears 48 = .ok (.iconst 3, 1) := by decide +kernel
theorem dX2_passYears_49 : decode cX2_passYears 49 = .ok (.isub, 1) := by decide +kernel
theorem dX2_passYears_50 : decode cX2_passYears 50 = .ok (.istore 8, 2) := by decide +kernel
theorem dX2_passYears_52 : decode cX2_passYears 52 = .ok (.iload 8, 2) := by decide +kernel
theorem dX2_passYears_54 : decode cX2_passYears 54 = .ok (.invokestatic 57, 3) := by decide +kernel
theorem dX2_passYears_57 : decode cX2_passYears 57 = .ok (.aload_n 0, 1) := by decide +kernel
theorem dX2_passYears_58 : decode cX2_passYears 58 = .ok (.iload 7, 2) := by decide +kernel
theorem dX2_passYears_60 : decode cX2_passYears 60 = .ok (.invokevirtual 78, 3) := by decide +kernel
theorem dX2_passYears_63 : decode cX2_passYears 63 = .ok (.if_icmp .gt 15, 3) := by decide +kernel
theorem dX2_passYears_66 : decode cX2_passYears 66 = .ok (.aload_n 0, 1) := by decide +kernel
theorem dX2_passYears_67 : decode cX2_passYears 67 = .ok (.getfield 28, 3) := by decide +kernel
theorem dX2_passYears_70 : decode cX2_passYears 70 = .ok (.iload 7, 2) := by decide +kernel
theorem dX2_passYears_72 : decode cX2_passYears 72 = .ok (.iload 8, 2) := by decide +kernel
theorem dX2_passYears_74 : decode cX2_passYears 74 = .ok (.iastore, 1) := by decide +kernel
theorem dX2_passYears_75 : decode cX2_passYears 75 = .ok (.iinc 5 1, 3) := by decide +kernel
theorem dX2_passYears_78 : decode cX2_passYears 78 = .ok (.iload 6, 2) := by decide +kernel
theorem dX2_passYears_80 : decode cX2_passYears 80 = .ok (.iconst 5, 1) := by decide +kernel
theorem dX2_passYears_81 : decode cX2_passYears 81 = .ok (.irem, 1) := by decide +kernel
theorem dX2_passYears_82 : decode cX2_passYears 82 = .ok (.ifCond .ne 7, 3) := by decide +kernel
theorem dX2_passYears_85 : decode cX2_passYears 85 = .ok (.aload_n 0, 1) := by decide +kernel
theorem dX2_passYears_86 : decode cX2_passYears 86 = .ok (.invokevirtual 96, 3) := by decide +kernel
theorem dX2_passYears_89 : decode cX2_passYears 89 = .ok (.iinc 6 1, 3) := by decide +kernel
theorem dX2_passYears_92 : decode cX2_passYears 92 = .ok (.goto (-83), 3) := by decide +kernel
theorem dX2_passYears_95 : decode cX2_passYears 95 = .ok (.iload 5, 2) := by decide +kernel
theorem dX2_passYears_97 : decode cX2_passYears 97 = .ok (.ireturn, 1) := by decide +kernel
def rmX2_passYears : Room := { frames := 3, cells := 0, slots := 0, locals := 64 }
def jnX2_passYears_78 (o0 : Nat) (x7 : Int32) (y9 : Int64) (B9 : Int64 → Int32 → Int32 → zM → Prop) (x15 : Int32) (M16 : zM) : Prop :=
    ((¬ (x7 - x7 / (5 : Int32) * (5 : Int32)) = 0) → (
    ∀ x17 : Int32, x17 = x7 + (1 : Int32) →
    B9 y9 x15 x17 M16)) ∧
    (((x7 - x7 / (5 : Int32) * (5 : Int32)) = 0) → (
    wX2_workIn M16 o0 (fun M18 =>
    ∀ x19 : Int32, x19 = x7 + (1 : Int32) →
    B9 y9 x15 x19 M18)))
def lpX2_passYears_9 (o0 : Nat) (x1 : Int32) (Q : Int32 → zM → Prop) : Nat → Int64 → Int32 → Int32 → zM → Prop
  | 0, _, _, _, _ => False
  | fu9 + 1, y5, x6, x7, M8 =>
    ((x1 < x7) → (
    Q x6 M8)) ∧
    ((¬ x1 < x7) → (
    (((M8 o0 0) ≤ 0) → (
    Q x6 M8)) ∧
    ((¬ (M8 o0 0) ≤ 0) → (
    ∀ y9 : Int64, y9 = ((y5 * (16807 : Int64)) - (y5 * (16807 : Int64)) / (2147483647 : Int64) * (2147483647 : Int64)) →
    ¬ (M8 o0 0).toInt64 = 0 ∧
    ∀ y10 : Int64, y10 = (y9 - y9 / (M8 o0 0).toInt64 * (M8 o0 0).toInt64) →
    ∀ x11 : Int32, x11 = ((y9 - y9 / (7 : Int64) * (7 : Int64)).toInt32 - (3 : Int32)) →
    wX2_reach M8 o0 y10.toInt32 (fun r12 =>
    ((r12 < (zabs x11)) → (
    jnX2_passYears_78 o0 x7 y9 (lpX2_passYears_9 o0 x1 Q fu9) x6 M8)) ∧
    ((¬ r12 < (zabs x11)) → (
    vp_in y10.toInt32 12 ∧
    ∀ M20 : zM, M20 = va_up M8 (o0 + 4) (upd (M8 (o0 + 4)) y10.toInt32.toNatClampNeg x11) →
    ∀ x21 : Int32, x21 = x6 + (1 : Int32) →
    jnX2_passYears_78 o0 x7 y9 (lpX2_passYears_9 o0 x1 Q fu9) x21 M20)))))))
def wX2_passYears (M : zM) (o0 : Nat) (x1 : Int32) (x2 : Int32) (Q : Int32 → zM → Prop) : Prop :=
    ∃ fu9 : Nat, lpX2_passYears_9 o0 x1 Q fu9 x2.toInt64 (0 : Int32) (1 : Int32) M
set_option maxHeartbeats 4000000 in
set_option maxRecDepth 100000 in
theorem kX2_passYears {l : Launch} {D : va_G} {Y : zY} {ad kd : Nat → Nat} {RL : List Nat} {M : zM} {J : zL} {o0 : Nat} {x1 : Int32} {x2 : Int32} (h_o0 : kd o0 = 2) {Q : Int32 → zM → Prop} (hq : wX2_passYears M o0 x1 x2 Q) : zCi l yX2_passYears wsX2_passYears rmX2_passYears [.ref (ad o0), .int x1, .int x2] D Y ad kd RL M J (fun r M' J' => Q r M' ∧ J = J') := by
  refine z_meti (cc := cX2_passYears) (maxL := 9) (ret := (some .int)) (by decide) rfl (Nat.le_of_ble_eq_true rfl) ?_
  intro p e s m below meth c ls A ar QE hQE hx hb hr hml hown hts hlk hw hl
  have hown : s.vm.findClass RX2 = some m.cls := hown
  have hl : lv_has ls 9 [(0, .ref (ad o0)), (1, .int x1), (2, .int x2)] := hl
  have hC := hw.2.2.2.2.2.1
  have g2 : ∀ w ∈ wsX20, w.before ar s = true := (fun w h => hts w (List.mem_cons_of_mem _ (List.mem_append_right _ h)))
  have q1 := hts _ (List.mem_of_getElem? (i := 1) rfl)
  have q2 := hts _ (List.mem_of_getElem? (i := 2) rfl)
  have q3 := hts _ (List.mem_of_getElem? (i := 3) rfl)
  have q4 := hts _ (List.mem_of_getElem? (i := 4) rfl)
  have q5 := hts _ (List.mem_of_getElem? (i := 5) rfl)
  have q6 := hts _ (List.mem_of_getElem? (i := 6) rfl)
  have q7 := hts _ (List.mem_of_getElem? (i := 7) rfl)
  have q8 := hts _ (List.mem_of_getElem? (i := 8) rfl)
  have q9 := hts _ (List.mem_of_getElem? (i := 9) rfl)
  unfold wX2_passYears at hq
  refine lv_iload_n hx hb dX2_passYears_0 rfl (lv_at hl 2 rfl) ?_
  refine lv_i2l hx hb dX2_passYears_1 rfl ?_
  refine lv_lstore_n (lv' := [(3, .long x2.toInt64), (0, .ref (ad o0)), (1, .int x1), (2, .int x2)]) hx hb dX2_passYears_2 rfl hl (by decide) rfl (fun ls hl => ?_)
  refine lv_iconst (v := (0 : Int32)) hx hb dX2_passYears_3 (by decide) ?_
  refine lv_istore (lv' := [(5, .int (0 : Int32)), (3, .long x2.toInt64), (0, .ref (ad o0)), (1, .int x1), (2, .int x2)]) hx hb dX2_passYears_4 hl (by decide) rfl (fun ls hl => ?_)
  refine lv_iconst (v := (1 : Int32)) hx hb dX2_passYears_6 (by decide) ?_
  refine lv_istore (lv' := [(6, .int (1 : Int32)), (5, .int (0 : Int32)), (3, .long x2.toInt64), (0, .ref (ad o0)), (1, .int x1), (2, .int x2)]) hx hb dX2_passYears_7 hl (by decide) rfl (fun ls hl => ?_)
  obtain ⟨fu9, hq⟩ := hq
  have lp9 : ∀ (fu9 : Nat) (y5 : Int64) (x6 : Int32) (x7 : Int32) (M8 : zM) (H : Heap) (locs : List Loc) (ls : Array Slot), lpX2_passYears_9 o0 x1 Q fu9 y5 x6 x7 M8 → zH D Y ad kd RL M8 J A s.heap H locs s → lv_has ls 9 [(0, .ref (ad o0)), (1, .int x1), (3, .long y5), (5, .int x6), (6, .int x7)] → W p l e rmX2_passYears s m ar below meth c H locs 0 0 QE (F0 m 9 ls []) := by
    intro fu9
    induction fu9 with
    | zero => intro y5 x6 x7 M8 H locs ls hq; exact hq.elim
    | succ fu9 ih9 =>
      intro y5 x6 x7 M8 H locs ls hq hw hl
      unfold lpX2_passYears_9 at hq
      refine lv_iload hx hb dX2_passYears_9 (lv_at hl 4 rfl) ?_
      refine lv_iload_n hx hb dX2_passYears_11 rfl (lv_at hl 1 rfl) ?_
      refine lv_icmp_gt (tgt := 95) hx hb dX2_passYears_12 (by decide) (fun hc => ?_) (fun hc => ?_)
      · have hq := hq.1 hc
        refine lv_iload hx hb dX2_passYears_95 (lv_at hl 3 rfl) ?_
        exact z_iret hQE hx hb hr hlk hw dX2_passYears_97 ⟨hq, rfl⟩
      · have hq := hq.2 hc
        refine lv_aload_n hx hb dX2_passYears_15 rfl (lv_at hl 0 rfl) ?_
        refine zg2_pegs hx hb g2 hown hw h_o0 q1 dX2_passYears_16 ?_
        refine lv_if_le (tgt := 95) hx hb dX2_passYears_19 (by decide) (fun hc => ?_) (fun hc => ?_)
        · have hq := hq.1 hc
          refine lv_iload hx hb dX2_passYears_95 (lv_at hl 3 rfl) ?_
          exact z_iret hQE hx hb hr hlk hw dX2_passYears_97 ⟨hq, rfl⟩
        · have hq := hq.2 hc
          refine lv_lload_n hx hb dX2_passYears_22 rfl (lv_at hl 2 rfl) ?_
          refine lv_ldc2 (v := (16807 : Int64)) hx hb hown q2 dX2_passYears_23 ?_
          refine lv_lmul hx hb dX2_passYears_26 ?_
          refine lv_ldc2 (v := (2147483647 : Int64)) hx hb hown q3 dX2_passYears_27 ?_
          refine lv_lrem hx hb dX2_passYears_30 (by decide) ?_
          refine lv_topl (fun y9 e_y9 => ?_)
          have hq := hq y9 e_y9
          refine lv_lstore_n (lv' := [(3, .long y9), (0, .ref (ad o0)), (1, .int x1), (5, .int x6), (6, .int x7)]) hx hb dX2_passYears_31 rfl hl (by decide) rfl (fun ls hl => ?_)
          refine lv_lload_n hx hb dX2_passYears_32 rfl (lv_at hl 0 rfl) ?_
          refine lv_aload_n hx hb dX2_passYears_33 rfl (lv_at hl 1 rfl) ?_
          refine zg2_pegs hx hb g2 hown hw h_o0 q1 dX2_passYears_34 ?_
          refine lv_i2l hx hb dX2_passYears_37 rfl ?_
          obtain ⟨hz, hq⟩ := hq
          refine lv_lrem hx hb dX2_passYears_38 hz ?_
          refine lv_topl (fun y10 e_y10 => ?_)
          have hq := hq y10 e_y10
          refine lv_l2i hx hb dX2_passYears_39 rfl ?_
          refine lv_istore (lv' := [(7, .int y10.toInt32), (3, .long y9), (0, .ref (ad o0)), (1, .int x1), (5, .int x6), (6, .int x7)]) hx hb dX2_passYears_40 hl (by decide) rfl (fun ls hl => ?_)
          refine lv_lload_n hx hb dX2_passYears_42 rfl (lv_at hl 1 rfl) ?_
          refine lv_ldc2 (v := (7 : Int64)) hx hb hown q4 dX2_passYears_43 ?_
          refine lv_lrem hx hb dX2_passYears_46 (by decide) ?_
          refine lv_l2i hx hb dX2_passYears_47 rfl ?_
          refine lv_iconst (v := (3 : Int32)) hx hb dX2_passYears_48 (by decide) ?_
          refine lv_isub hx hb dX2_passYears_49 ?_
          refine lv_topi (fun x11 e_x11 => ?_)
          have hq := hq x11 e_x11
          refine lv_istore (lv' := [(8, .int x11), (7, .int y10.toInt32), (3, .long y9), (0, .ref (ad o0)), (1, .int x1), (5, .int x6), (6, .int x7)]) hx hb dX2_passYears_50 hl (by decide) rfl (fun ls hl => ?_)
          refine lv_iload hx hb dX2_passYears_52 (lv_at hl 0 rfl) ?_
          refine va_mabs hx hb (hml.trans hl.1.symm) hown q5 q6 q7 q8 (Nat.le_of_ble_eq_true rfl) (Nat.le_of_ble_eq_true rfl) (Nat.zero_le _) (Nat.zero_le _) dX2_passYears_54 ?_
          refine lv_aload_n hx hb dX2_passYears_57 rfl (lv_at hl 3 rfl) ?_
          refine lv_iload hx hb dX2_passYears_58 (lv_at hl 1 rfl) ?_
          refine z_cvi ⟨hx, hb, hml, hown, hts⟩ hw h_o0 (kX2_reach h_o0 hq) (by decide) rfl (cwV 1 hts gX2_passYears_X2_reach rfl rfl rfl (by decide +kernel) ⟨Nat.le_of_ble_eq_true rfl, Nat.le_of_ble_eq_true rfl⟩) rfl hl.1 rfl (Nat.le_of_ble_eq_true rfl) dX2_passYears_60 ⟨Nat.zero_le _, Nat.zero_le _⟩ (fun r12 M0 J0 H locs hq hw => ?_)
          obtain ⟨hq, rfl, rfl⟩ := hq
          have jn78 : ∀ (x15 : Int32) (M16 : zM) (H : Heap) (locs : List Loc) (ls : Array Slot), jnX2_passYears_78 o0 x7 y9 (lpX2_passYears_9 o0 x1 Q fu9) x15 M16 → zH D Y ad kd RL M16 J A s.heap H locs s → lv_has ls 9 [(0, .ref (ad o0)), (1, .int x1), (3, .long y9), (5, .int x15), (6, .int x7)] → W p l e rmX2_passYears s m ar below meth c H locs 0 0 QE (F0 m 78 ls []) := by
            intro x15 M16 H locs ls hq hw hl
            unfold jnX2_passYears_78 at hq
            refine lv_iload hx hb dX2_passYears_78 (lv_at hl 4 rfl) ?_
            refine lv_iconst (v := (5 : Int32)) hx hb dX2_passYears_80 (by decide) ?_
            refine lv_irem hx hb dX2_passYears_81 (by decide) ?_
            refine lv_if_ne (tgt := 89) hx hb dX2_passYears_82 (by decide) (fun hc => ?_) (fun hc => ?_)
            · have hq := hq.1 hc
              obtain ⟨x17, e_x17⟩ : ∃ y : Int32, y = x7 + (1 : Int32) := ⟨_, rfl⟩
              have hq := hq x17 e_x17
              refine lv_iinc (v := x17) (lv' := [(6, .int x17), (0, .ref (ad o0)), (1, .int x1), (3, .long y9), (5, .int x15)]) hx hb dX2_passYears_89 hl (k := 4) rfl (by rw [e_x17]; rfl) (by decide) rfl (fun ls hl => ?_)
              refine lv_goto (tgt := 9) hx hb dX2_passYears_92 (by decide) ?_
              exact ih9 y9 x15 x17 M16 _ _ _ hq hw (lv_sub hl [1, 2, 3, 4, 0] rfl)
            · have hq := hq.2 hc
              refine lv_aload_n hx hb dX2_passYears_85 rfl (lv_at hl 0 rfl) ?_
              refine z_cvv ⟨hx, hb, hml, hown, hts⟩ hw h_o0 (kX2_workIn h_o0 hq) (by decide) rfl (cwV 0 hts gX2_passYears_X2_workIn rfl rfl rfl (by decide +kernel) ⟨Nat.le_of_ble_eq_true rfl, Nat.le_of_ble_eq_true rfl⟩) rfl hl.1 rfl (Nat.le_of_ble_eq_true rfl) dX2_passYears_86 ⟨Nat.zero_le _, Nat.zero_le _⟩ (fun M18 J0 H locs hq hw => ?_)
              obtain ⟨hq, rfl⟩ := hq
              obtain ⟨x19, e_x19⟩ : ∃ y : Int32, y = x7 + (1 : Int32) := ⟨_, rfl⟩
              have hq := hq x19 e_x19
              refine lv_iinc (v := x19) (lv' := [(6, .int x19), (0, .ref (ad o0)), (1, .int x1), (3, .long y9), (5, .int x15)]) hx hb dX2_passYears_89 hl (k := 4) rfl (by rw [e_x19]; rfl) (by decide) rfl (fun ls hl => ?_)
              refine lv_goto (tgt := 9) hx hb dX2_passYears_92 (by decide) ?_
              exact ih9 y9 x15 x19 M18 _ _ _ hq hw (lv_sub hl [1, 2, 3, 4, 0] rfl)
          refine lv_icmp_gt (tgt := 78) hx hb dX2_passYears_63 (by decide) (fun hc => ?_) (fun hc => ?_)
          · have hq := hq.1 hc
            exact jn78 x6 M8 _ _ _ hq hw (lv_sub hl [3, 4, 2, 5, 6] rfl)
          · have hq := hq.2 hc
            refine lv_aload_n hx hb dX2_passYears_66 rfl (lv_at hl 3 rfl) ?_
            refine zg2_slews hx hb g2 hown hw h_o0 q9 dX2_passYears_67 ?_
            refine lv_iload hx hb dX2_passYears_70 (lv_at hl 1 rfl) ?_
            refine lv_iload hx hb dX2_passYears_72 (lv_at hl 0 rfl) ?_
            obtain ⟨hi, hq⟩ := hq
            refine z_iast (n := 12) hx hb hw (zk_2_4 hC h_o0) hi dX2_passYears_74 (fun H locs hw => ?_)
            obtain ⟨M20, e_M20⟩ : ∃ y : zM, y = va_up M8 (o0 + 4) (upd (M8 (o0 + 4)) y10.toInt32.toNatClampNeg x11) := ⟨_, rfl⟩
            rw [← e_M20] at hw
            have hq := hq M20 e_M20
            obtain ⟨x21, e_x21⟩ : ∃ y : Int32, y = x6 + (1 : Int32) := ⟨_, rfl⟩
            have hq := hq x21 e_x21
            refine lv_iinc (v := x21) (lv' := [(5, .int x21), (8, .int x11), (7, .int y10.toInt32), (3, .long y9), (0, .ref (ad o0)), (1, .int x1), (6, .int x7)]) hx hb dX2_passYears_75 hl (k := 5) rfl (by rw [e_x21]; rfl) (by decide) rfl (fun ls hl => ?_)
            exact jn78 x21 M20 _ _ _ hq hw (lv_sub hl [4, 5, 3, 0, 6] rfl)
  exact lp9 fu9 x2.toInt64 (0 : Int32) (1 : Int32) M _ _ _ hq hw (lv_sub hl [3, 4, 2, 1, 0] rfl)
