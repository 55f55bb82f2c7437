set_option maxRecDepth 20000 in
theorem ggX7_fits_X7_isPeg : GoodIn wsX7_fits wsX7_isPeg := goodIn_r _ [10, 1, 2, 11, 12, 9, 13, 89, 90, 91, 92, 93, 94, 95, 96, 97, 98, 99, 100, 101, 102, 103, 104] (by decide +kernel) (by decide +kernel)
set_option maxRecDepth 20000 in
theorem gX7_fits_X7_isPeg : GoodIn wsX7_fits (wsV RX7 146 RX7 yX7_isPeg wsX7_isPeg) := goodIn_app (goodIn_of _ (by decide +kernel)) ggX7_fits_X7_isPeg
set_option maxRecDepth 20000 in
theorem ggX7_fits_X7_isRow : GoodIn wsX7_fits wsX7_isRow := goodIn_r _ [16, 11, 12, 9, 13] (by decide +kernel) (by decide +kernel)
set_option maxRecDepth 20000 in
theorem gX7_fits_X7_isRow : GoodIn wsX7_fits (va_wsS RX7 66 yX7_isRow wsX7_isRow) := goodIn_app (goodIn_of _ (by decide +kernel)) ggX7_fits_X7_isRow
set_option maxRecDepth 20000 in
theorem ggX7_fits_X7_isWithin : GoodIn wsX7_fits wsX7_isWithin := goodIn_r _ [13] (by decide +kernel) (by decide +kernel)
set_option maxRecDepth 20000 in
theorem gX7_fits_X7_isWithin : GoodIn wsX7_fits (va_wsS RX7 70 yX7_isWithin wsX7_isWithin) := goodIn_app (goodIn_of _ (by decide +kernel)) ggX7_fits_X7_isWithin
set_option maxRecDepth 20000 in
theorem ggX7_fits_X3_isMissing : GoodIn wsX7_fits wsX3_isMissing := goodIn_r _ [21, 22, 105, 106, 107] (by decide +kernel) (by decide +kernel)
set_option maxRecDepth 20000 in
theorem gX7_fits_X3_isMissing : GoodIn wsX7_fits (wsV RX7 86 RX3 yX3_isMissing wsX3_isMissing) := goodIn_app (goodIn_of _ (by decide +kernel)) ggX7_fits_X3_isMissing
set_option maxRecDepth 20000 in
theorem ggX7_fits_X7_found : GoodIn wsX7_fits wsX7_found := goodIn_r _ [26, 27, 28, 89, 90, 91, 92, 93, 94, 95, 96, 97, 98] (by decide +kernel) (by decide +kernel)
set_option maxRecDepth 20000 in
theorem gX7_fits_X7_found : GoodIn wsX7_fits (wsV RX7 75 RX7 yX7_found wsX7_found) := goodIn_app (goodIn_of _ (by decide +kernel)) ggX7_fits_X7_found
set_option maxRecDepth 20000 in
theorem ggX7_fits_X3_holds : GoodIn wsX7_fits wsX3_holds := goodIn_r _ [32, 33, 105, 106, 107] (by decide +kernel) (by decide +kernel)
set_option maxRecDepth 20000 in
theorem gX7_fits_X3_holds : GoodIn wsX7_fits (wsV RX7 90 RX3 yX3_holds wsX3_holds) := goodIn_app (goodIn_of _ (by decide +kernel)) ggX7_fits_X3_holds
set_option maxRecDepth 20000 in
theorem ggX7_fits_X2_become : GoodIn wsX7_fits wsX2_become := goodIn_r _ [38, 39, 40, 41, 42, 43, 44, 45, 46, 47, 48, 99, 100, 101, 102, 103, 104] (by decide +kernel) (by decide +kernel)
set_option maxRecDepth 20000 in
theorem gX7_fits_X2_become : GoodIn wsX7_fits (wsV RX7 133 RX2 yX2_become wsX2_become) := goodIn_app (goodIn_of _ (by decide +kernel)) ggX7_fits_X2_become
set_option maxRecDepth 20000 in
theorem ggX7_fits_X7_slewsThatFit : GoodIn wsX7_fits wsX7_slewsThatFit := goodIn_r _ [52, 5, 53, 54, 55, 56, 37, 57, 39, 41, 47, 58, 59, 60, 61, 62, 63, 64, 20, 65, 66, 67, 68, 69, 70, 46, 48, 71, 72, 73, 74, 89, 90, 91, 92, 93, 94, 95, 96, 97, 98, 99, 100, 101, 102, 103, 104, 105, 106, 107] (by decide +kernel) (by decide +kernel)
set_option maxRecDepth 20000 in
theorem gX7_fits_X7_slewsThatFit : GoodIn wsX7_fits (wsV RX7 251 RX7 yX7_slewsThatFit wsX7_slewsThatFit) := goodIn_app (goodIn_of _ (by decide +kernel)) ggX7_fits_X7_slewsThatFit
set_option maxRecDepth 20000 in
theorem ggX7_fits_X7_fine : GoodIn wsX7_fits wsX7_fine := goodIn_r _ [78, 27, 89, 90, 91, 92, 93, 94, 95, 96, 97, 98] (by decide +kernel) (by decide +kernel)
set_option maxRecDepth 20000 in
theorem gX7_fits_X7_fine : GoodIn wsX7_fits (wsV RX7 83 RX7 yX7_fine wsX7_fine) := goodIn_app (goodIn_of _ (by decide +kernel)) ggX7_fits_X7_fine
set_option maxRecDepth 20000 in
theorem ggX7_fits_X7_versinesThatFit : GoodIn wsX7_fits wsX7_versinesThatFit := goodIn_r _ [82, 5, 83, 62, 63, 64, 20, 65, 66, 67, 68, 69, 37, 70, 46, 48, 71, 72, 73, 74, 39, 89, 90, 91, 92, 93, 94, 95, 96, 97, 98, 99, 100, 101, 102, 103, 104, 105, 106, 107] (by decide +kernel) (by decide +kernel)
set_option maxRecDepth 20000 in
theorem gX7_fits_X7_versinesThatFit : GoodIn wsX7_fits (wsV RX7 255 RX7 yX7_versinesThatFit wsX7_versinesThatFit) := goodIn_app (goodIn_of _ (by decide +kernel)) ggX7_fits_X7_versinesThatFit
set_option maxRecDepth 20000 in
theorem ggX7_fits_X7_leastVersineThatFits : GoodIn wsX7_fits wsX7_leastVersineThatFits := goodIn_r _ [87, 5, 83, 88, 62, 63, 64, 20, 65, 66, 67, 68, 69, 37, 70, 46, 48, 71, 72, 73, 74, 39, 89, 90, 91, 92, 93, 94, 95, 96, 97, 98, 99, 100, 101, 102, 103, 104, 105, 106, 107] (by decide +kernel) (by decide +kernel)
set_option maxRecDepth 20000 in
theorem gX7_fits_X7_leastVersineThatFits : GoodIn wsX7_fits (wsV RX7 258 RX7 yX7_leastVersineThatFits wsX7_leastVersineThatFits) := goodIn_app (goodIn_of _ (by decide +kernel)) ggX7_fits_X7_leastVersineThatFits
theorem dX7_fits_0 : decode cX7_fits 0 = .ok (.aload_n 0, 1) := by decide +kernel
theorem dX7_fits_1 : decode cX7_fits 1 = .ok (.iload_n 1, 1) := by decide +kernel
theorem dX7_fits_2 : decode cX7_fits 2 = .ok (.invokevirtual 146, 3) := by decide +kernel
theorem dX7_fits_5 : decode cX7_fits 5 = .ok (.ifCond .eq 35, 3) := by decide +kernel
theorem dX7_fits_8 : decode cX7_fits 8 = .ok (.iload_n 2, 1) := by decide +kernel
theorem dX7_fits_9 : decode cX7_fits 9 = .ok (.invokestatic 66, 3) := by decide +kernel
theorem dX7_fits_12 : decode cX7_fits 12 = .ok (.ifCond .eq 28, 3) := by decide +kernel
theorem dX7_fits_15 : decode cX7_fits 15 = .ok (.iload_n 3, 1) := by decide +kernel
theorem dX7_fits_16 : decode cX7_fits 16 = .ok (.iconst 1, 1) := by decide +kernel
theorem dX7_fits_17 : decode cX7_fits 17 = .ok (.aload_n 0, 1) := by decide +kernel
theorem dX7_fits_18 : decode cX7_fits 18 = .ok (.getfield 25, 3) := by decide +kernel
theorem dX7_fits_21 : decode cX7_fits 21 = .ok (.getfield 140, 3) := by decide +kernel
theorem dX7_fits_24 : decode cX7_fits 24 = .ok (.invokestatic 70, 3) := by decide +kernel
theorem dX7_fits_27 : decode cX7_fits 27 = .ok (.ifCond .eq 13, 3) := by decide +kernel
theorem dX7_fits_30 : decode cX7_fits 30 = .ok (.iload 4, 2) := by decide +kernel
theorem dX7_fits_32 : decode cX7_fits 32 = .ok (.iconst 0, 1) := by decide +kernel
theorem dX7_fits_33 : decode cX7_fits 33 = .ok (.iconst 2, 1) := by decide +kernel
theorem dX7_fits_34 : decode cX7_fits 34 = .ok (.invokestatic 70, 3) := by decide +kernel
theorem dX7_fits_37 : decode cX7_fits 37 = .ok (.ifCond .ne 6, 3) := by decide +kernel
theorem dX7_fits_40 : decode cX7_fits 40 = .ok (.ldc 74, 2) := by decide +kernel
theorem dX7_fits_42 : decode cX7_fits 42 = .ok (.ireturn, 1) := by decide +kernel
theorem dX7_fits_43 : decode cX7_fits 43 = .ok (.aload_n 0, 1) := by decide +kernel
theorem dX7_fits_44 : decode cX7_fits 44 = .ok (.getfield 11, 3) := by decide +kernel
theorem dX7_fits_47 : decode cX7_fits 47 = .ok (.iload_n 2, 1) := by decide +kernel
theorem dX7_fits_48 : decode cX7_fits 48 = .ok (.aaload, 1) := by decide +kernel
theorem dX7_fits_49 : decode cX7_fits 49 = .ok (.astore 5, 2) := by decide +kernel
theorem dX7_fits_51 : decode cX7_fits 51 = .ok (.aload 5, 2) := by decide +kernel
theorem dX7_fits_53 : decode cX7_fits 53 = .ok (.invokevirtual 86, 3) := by decide +kernel
theorem dX7_fits_56 : decode cX7_fits 56 = .ok (.ifCond .eq 9, 3) := by decide +kernel
theorem dX7_fits_59 : decode cX7_fits 59 = .ok (.aload_n 0, 1) := by decide +kernel
theorem dX7_fits_60 : decode cX7_fits 60 = .ok (.iconst 1, 1) := by decide +kernel
theorem dX7_fits_61 : decode cX7_fits 61 = .ok (.invokevirtual 75, 3) := by decide +kernel
theorem dX7_fits_64 : decode cX7_fits 64 = .ok (.ireturn, 1) := by decide +kernel
theorem dX7_fits_65 : decode cX7_fits 65 = .ok (.aload 5, 2) := by decide +kernel
theorem dX7_fits_67 : decode cX7_fits 67 = .ok (.iconst 0, 1) := by decide +kernel
theorem dX7_fits_68 : decode cX7_fits 68 = .ok (.iload_n 3, 1) := by decide +kernel
theorem dX7_fits_69 : decode cX7_fits 69 = .ok (.invokevirtual 90, 3) := by decide +kernel
theorem dX7_fits_72 : decode cX7_fits 72 = .ok (.ifCond .ne 9, 3) := by decide +kernel
theorem dX7_fits_75 : decode cX7_fits 75 = .ok (.aload_n 0, 1) := by decide +kernel
theorem dX7_fits_76 : decode cX7_fits 76 = .ok (.iconst 2, 1) := by decide +kernel
theorem dX7_fits_77 : decode cX7_fits 77 = .ok (.invokevirtual 75, 3) := by decide +kernel
theorem dX7_fits_80 : decode cX7_fits 80 = .ok (.ireturn, 1) := by decide +kernel
theorem dX7_fits_81 : decode cX7_fits 81 = .ok (.aload_n 0, 1) := by decide +kernel
theorem dX7_fits_82 : decode cX7_fits 82 = .ok (.getfield 29, 3) := by decide +kernel
theorem dX7_fits_85 : decode cX7_fits 85 = .ok (.aload_n 0, 1) := by decide +kernel
theorem dX7_fits_86 : decode cX7_fits 86 = .ok (.getfield 25, 3) := by decide +kernel
theorem dX7_fits_89 : decode cX7_fits 89 = .ok (.invokevirtual 133, 3) := by decide +kernel
theorem dX7_fits_92 : decode cX7_fits 92 = .ok (.iload 4, 2) := by decide +kernel
theorem dX7_fits_94 : decode cX7_fits 94 = .ok (.ifCond .ne 16, 3) := by decide +kernel
theorem dX7_fits_97 : decode cX7_fits 97 = .ok (.aload_n 0, 1) := by decide +kernel
theorem dX7_fits_98 : decode cX7_fits 98 = .ok (.aload_n 0, 1) := by decide +kernel
theorem dX7_fits_99 : decode cX7_fits 99 = .ok (.iload_n 1, 1) := by decide +kernel
theorem dX7_fits_100 : decode cX7_fits 100 = .ok (.aload 5, 2) := by decide +kernel
theorem dX7_fits_102 : decode cX7_fits 102 = .ok (.iload_n 3, 1) := by decide +kernel
theorem dX7_fits_103 : decode cX7_fits 103 = .ok (.invokevirtual 251, 3) := by decide +kernel
theorem dX7_fits_106 : decode cX7_fits 106 = .ok (.invokevirtual 83, 3) := by decide +kernel
theorem dX7_fits_109 : decode cX7_fits 109 = .ok (.ireturn, 1) := by decide +kernel
theorem dX7_fits_110 : decode cX7_fits 110 = .ok (.aload_n 0, 1) := by decide +kernel
theorem dX7_fits_111 : decode cX7_fits 111 = .ok (.iload 4, 2) := by decide +kernel
theorem dX7_fits_113 : decode cX7_fits 113 = .ok (.iconst 1, 1) := by decide +kernel
theorem dX7_fits_114 : decode cX7_fits 114 = .ok (.if_icmp .ne 14, 3) := by decide +kernel
theorem dX7_fits_117 : decode cX7_fits 117 = .ok (.aload_n 0, 1) := by decide +kernel
theorem dX7_fits_118 : decode cX7_fits 118 = .ok (.iload_n 1, 1) := by decide +kernel
theorem dX7_fits_119 : decode cX7_fits 119 = .ok (.aload 5, 2) := by decide +kernel
theorem dX7_fits_121 : decode cX7_fits 121 = .ok (.iload_n 3, 1) := by decide +kernel
theorem dX7_fits_122 : decode cX7_fits 122 = .ok (.invokevirtual 255, 3) := by decide +kernel
theorem dX7_fits_125 : decode cX7_fits 125 = .ok (.goto 11, 3) := by decide +kernel
theorem dX7_fits_128 : decode cX7_fits 128 = .ok (.aload_n 0, 1) := by decide +kernel
theorem dX7_fits_129 : decode cX7_fits 129 = .ok (.iload_n 1, 1) := by decide +kernel
theorem dX7_fits_130 : decode cX7_fits 130 = .ok (.aload 5, 2) := by decide +kernel
theorem dX7_fits_132 : decode cX7_fits 132 = .ok (.iload_n 3, 1) := by decide +kernel
theorem dX7_fits_133 : decode cX7_fits 133 = .ok (.invokevirtual 258, 3) := by decide +kernel
theorem dX7_fits_136 : decode cX7_fits 136 = .ok (.invokevirtual 83, 3) := by decide +kernel
theorem dX7_fits_139 : decode cX7_fits 139 = .ok (.ireturn, 1) := by decide +kernel
def rmX7_fits : Room := { frames := 4, cells := 0, slots := 0, locals := 91 }
def wX7_fits (M : zM) (o0 : Nat) (x1 : Int32) (x2 : Int32) (x3 : Int32) (x4 : Int32) (Q : Int32 → zM → Prop) : Prop :=
    wX7_isPeg M o0 x1 (fun r7 =>
    ((r7 = 0) → (
    Q (-1000001 : Int32) M)) ∧
    ((¬ r7 = 0) → (
    wX7_isRow M x2 (fun r8 =>
    ((r8 = 0) → (
    Q (-1000001 : Int32) M)) ∧
    ((¬ r8 = 0) → (
    wX7_isWithin M x3 (1 : Int32) (M (o0 + 20) 0) (fun r9 =>
    ((r9 = 0) → (
    Q (-1000001 : Int32) M)) ∧
    ((¬ r9 = 0) → (
    wX7_isWithin M x4 (0 : Int32) (2 : Int32) (fun r10 =>
    ((¬ r10 = 0) → (
    vp_in x2 8 ∧
    wX3_isMissing M ((o0 + 1) + 1 + 2 * x2.toNatClampNeg) (fun r12 =>
    ((r12 = 0) → (
    wX3_holds M ((o0 + 1) + 1 + 2 * x2.toNatClampNeg) (0 : Int32) x3 (fun r13 =>
    ((¬ r13 = 0) → (
    wX2_become M (o0 + 25) (o0 + 20) (fun M14 =>
    ((¬ x4 = 0) → (
    ((¬ x4 = (1 : Int32)) → (
    wX7_leastVersineThatFits M14 o0 x1 ((o0 + 1) + 1 + 2 * x2.toNatClampNeg) x3 (fun r15 M16 =>
    wX7_fine M16 o0 r15 (fun r17 M18 =>
    Q r17 M18)))) ∧
    ((x4 = (1 : Int32)) → (
    wX7_versinesThatFit M14 o0 x1 ((o0 + 1) + 1 + 2 * x2.toNatClampNeg) x3 (fun r19 M20 =>
    wX7_fine M20 o0 r19 (fun r21 M22 =>
    Q r21 M22)))))) ∧
    ((x4 = 0) → (
    wX7_slewsThatFit M14 o0 x1 ((o0 + 1) + 1 + 2 * x2.toNatClampNeg) x3 (fun r23 M24 =>
    wX7_fine M24 o0 r23 (fun r25 M26 =>
    Q r25 M26))))))) ∧
    ((r13 = 0) → (
    wX7_found M o0 (2 : Int32) (fun r27 M28 =>
    Q r27 M28)))))) ∧
    ((¬ r12 = 0) → (
    wX7_found M o0 (1 : Int32) (fun r29 M30 =>
    Q r29 M30)))))) ∧
    ((r10 = 0) → (
    Q (-1000001 : Int32) M))))))))))))
set_option maxHeartbeats 4000000 in
set_option maxRecDepth 100000 in
theorem kX7_fits {l : Launch} {D : va_G} {Y : zY} {ad kd : Nat → Nat} {RL : List Nat} {M : zM} {J : zL} {o0 : Nat} {x1 : Int32} {x2 : Int32} {x3 : Int32} {x4 : Int32} (h_o0 : kd o0 = 7) {Q : Int32 → zM → Prop} (hq : wX7_fits M o0 x1 x2 x3 x4 Q) : zCi l yX7_fits wsX7_fits rmX7_fits [.ref (ad o0), .int x1, .int x2, .int x3, .int x4] D Y ad kd RL M J (fun r M' J' => Q r M' ∧ J = J') := by
  refine z_meti (cc := cX7_fits) (maxL := 6) (ret := (some .int)) (by decide) rfl (Nat.le_of_ble_eq_true rfl) ?_
  intro p e s m below meth c ls A ar QE hQE hx hb hr hml hown hts hlk hw hl
  have hown : s.vm.findClass RX7 = some m.cls := hown
  have hl : lv_has ls 6 [(0, .ref (ad o0)), (1, .int x1), (2, .int x2), (3, .int x3), (4, .int x4)] := hl
  have hC := hw.2.2.2.2.2.1
  have g2 : ∀ w ∈ wsX20, w.before ar s = true := (fun w h => hts w (List.mem_cons_of_mem _ (List.mem_append_left _ (List.mem_append_right _ h))))
  have g7 : ∀ w ∈ wsX70, w.before ar s = true := (fun w h => hts w (List.mem_cons_of_mem _ (List.mem_append_left _ (List.mem_append_left _ (List.mem_append_right _ h)))))
  have q1 := hts _ (List.mem_of_getElem? (i := 1) rfl)
  have q2 := hts _ (List.mem_of_getElem? (i := 2) rfl)
  have q3 := hts _ (List.mem_of_getElem? (i := 3) rfl)
  have q4 := hts _ (List.mem_of_getElem? (i := 4) rfl)
  have q5 := hts _ (List.mem_of_getElem? (i := 5) rfl)
  unfold wX7_fits at hq
  refine lv_aload_n hx hb dX7_fits_0 rfl (lv_at hl 0 rfl) ?_
  refine lv_iload_n hx hb dX7_fits_1 rfl (lv_at hl 1 rfl) ?_
  refine z_cvi ⟨hx, hb, hml, hown, hts⟩ hw h_o0 (kX7_isPeg h_o0 hq) (by decide) rfl (cwV 1 hts gX7_fits_X7_isPeg rfl rfl rfl (by decide +kernel) ⟨Nat.le_of_ble_eq_true rfl, Nat.le_of_ble_eq_true rfl⟩) rfl hl.1 rfl (Nat.le_of_ble_eq_true rfl) dX7_fits_2 ⟨Nat.zero_le _, Nat.zero_le _⟩ (fun r7 M0 J0 H locs hq hw => ?_)
  obtain ⟨hq, rfl, rfl⟩ := hq
  refine lv_if_eq (tgt := 40) hx hb dX7_fits_5 (by decide) (fun hc => ?_) (fun hc => ?_)
  · have hq := hq.1 hc
    refine lv_ldc (v := (-1000001 : Int32)) hx hb hown q3 dX7_fits_40 ?_
    exact z_iret hQE hx hb hr hlk hw dX7_fits_42 ⟨hq, rfl⟩
  · have hq := hq.2 hc
    refine lv_iload_n hx hb dX7_fits_8 rfl (lv_at hl 2 rfl) ?_
    refine z_csi ⟨hx, hb, hml, hown, hts⟩ hw (kX7_isRow  hq) (va_cwS 1 hts gX7_fits_X7_isRow rfl rfl rfl (by decide +kernel) ⟨Nat.le_of_ble_eq_true rfl, Nat.le_of_ble_eq_true rfl⟩) rfl hl.1 rfl (Nat.le_of_ble_eq_true rfl) dX7_fits_9 ⟨Nat.zero_le _, Nat.zero_le _⟩ (fun r8 M0 J0 H locs hq hw => ?_)
    obtain ⟨hq, rfl, rfl⟩ := hq
    refine lv_if_eq (tgt := 40) hx hb dX7_fits_12 (by decide) (fun hc => ?_) (fun hc => ?_)
    · have hq := hq.1 hc
      refine lv_ldc (v := (-1000001 : Int32)) hx hb hown q3 dX7_fits_40 ?_
      exact z_iret hQE hx hb hr hlk hw dX7_fits_42 ⟨hq, rfl⟩
    · have hq := hq.2 hc
      refine lv_iload_n hx hb dX7_fits_15 rfl (lv_at hl 3 rfl) ?_
      refine lv_iconst (v := (1 : Int32)) hx hb dX7_fits_16 (by decide) ?_
      refine lv_aload_n hx hb dX7_fits_17 rfl (lv_at hl 0 rfl) ?_
      refine zg7_rail hx hb g7 hown hw h_o0 q1 dX7_fits_18 ?_
      refine zg2_pegs hx hb g2 hown hw (zk_7_20 hC h_o0) q2 dX7_fits_21 ?_
      refine z_csi ⟨hx, hb, hml, hown, hts⟩ hw (kX7_isWithin  hq) (va_cwS 3 hts gX7_fits_X7_isWithin rfl rfl rfl (by decide +kernel) ⟨Nat.le_of_ble_eq_true rfl, Nat.le_of_ble_eq_true rfl⟩) rfl hl.1 rfl (Nat.le_of_ble_eq_true rfl) dX7_fits_24 ⟨Nat.zero_le _, Nat.zero_le _⟩ (fun r9 M0 J0 H locs hq hw => ?_)
      obtain ⟨hq, rfl, rfl⟩ := hq
      refine lv_if_eq (tgt := 40) hx hb dX7_fits_27 (by decide) (fun hc => ?_) (fun hc => ?_)
      · have hq := hq.1 hc
        refine lv_ldc (v := (-1000001 : Int32)) hx hb hown q3 dX7_fits_40 ?_
        exact z_iret hQE hx hb hr hlk hw dX7_fits_42 ⟨hq, rfl⟩
      · have hq := hq.2 hc
        refine lv_iload hx hb dX7_fits_30 (lv_at hl 4 rfl) ?_
        refine lv_iconst (v := (0 : Int32)) hx hb dX7_fits_32 (by decide) ?_
        refine lv_iconst (v := (2 : Int32)) hx hb dX7_fits_33 (by decide) ?_
        refine z_csi ⟨hx, hb, hml, hown, hts⟩ hw (kX7_isWithin  hq) (va_cwS 3 hts gX7_fits_X7_isWithin rfl rfl rfl (by decide +kernel) ⟨Nat.le_of_ble_eq_true rfl, Nat.le_of_ble_eq_true rfl⟩) rfl hl.1 rfl (Nat.le_of_ble_eq_true rfl) dX7_fits_34 ⟨Nat.zero_le _, Nat.zero_le _⟩ (fun r10 M0 J0 H locs hq hw => ?_)
        obtain ⟨hq, rfl, rfl⟩ := hq
        refine lv_if_ne (tgt := 43) hx hb dX7_fits_37 (by decide) (fun hc => ?_) (fun hc => ?_)
        · have hq := hq.1 hc
          refine lv_aload_n hx hb dX7_fits_43 rfl (lv_at hl 0 rfl) ?_
          refine zg7_rows hx hb g7 hown hw h_o0 q4 dX7_fits_44 ?_
          refine lv_iload_n hx hb dX7_fits_47 rfl (lv_at hl 2 rfl) ?_
          obtain ⟨hi, hq⟩ := hq
          have hk11 := zk_13 hC (zk_7_1 hC h_o0) (z_lt hi)
          refine z_ald13 hx hb hw (zk_7_1 hC h_o0) hi dX7_fits_48 ?_
          refine lv_astore (lv' := [(5, .ref (ad ((o0 + 1) + 1 + 2 * x2.toNatClampNeg))), (0, .ref (ad o0)), (1, .int x1), (2, .int x2), (3, .int x3), (4, .int x4)]) hx hb dX7_fits_49 hl (by decide) rfl (fun ls hl => ?_)
          refine lv_aload hx hb dX7_fits_51 (lv_at hl 0 rfl) ?_
          refine z_cvi ⟨hx, hb, hml, hown, hts⟩ hw hk11 (kX3_isMissing hk11 hq) (by decide) rfl (cwV 0 hts gX7_fits_X3_isMissing rfl rfl rfl (by decide +kernel) ⟨Nat.le_of_ble_eq_true rfl, Nat.le_of_ble_eq_true rfl⟩) rfl hl.1 rfl (Nat.le_of_ble_eq_true rfl) dX7_fits_53 ⟨Nat.zero_le _, Nat.zero_le _⟩ (fun r12 M0 J0 H locs hq hw => ?_)
          obtain ⟨hq, rfl, rfl⟩ := hq
          refine lv_if_eq (tgt := 65) hx hb dX7_fits_56 (by decide) (fun hc => ?_) (fun hc => ?_)
          · have hq := hq.1 hc
            refine lv_aload hx hb dX7_fits_65 (lv_at hl 0 rfl) ?_
            refine lv_iconst (v := (0 : Int32)) hx hb dX7_fits_67 (by decide) ?_
            refine lv_iload_n hx hb dX7_fits_68 rfl (lv_at hl 4 rfl) ?_
            refine z_cvi ⟨hx, hb, hml, hown, hts⟩ hw hk11 (kX3_holds hk11 hq) (by decide) rfl (cwV 2 hts gX7_fits_X3_holds rfl rfl rfl (by decide +kernel) ⟨Nat.le_of_ble_eq_true rfl, Nat.le_of_ble_eq_true rfl⟩) rfl hl.1 rfl (Nat.le_of_ble_eq_true rfl) dX7_fits_69 ⟨Nat.zero_le _, Nat.zero_le _⟩ (fun r13 M0 J0 H locs hq hw => ?_)
            obtain ⟨hq, rfl, rfl⟩ := hq
            refine lv_if_ne (tgt := 81) hx hb dX7_fits_72 (by decide) (fun hc => ?_) (fun hc => ?_)
            · have hq := hq.1 hc
              refine lv_aload_n hx hb dX7_fits_81 rfl (lv_at hl 1 rfl) ?_
              refine zg7_draft hx hb g7 hown hw h_o0 q5 dX7_fits_82 ?_
              refine lv_aload_n hx hb dX7_fits_85 rfl (lv_at hl 1 rfl) ?_
              refine zg7_rail hx hb g7 hown hw h_o0 q1 dX7_fits_86 ?_
              refine z_cvv ⟨hx, hb, hml, hown, hts⟩ hw (zk_7_25 hC h_o0) (kX2_become (zk_7_25 hC h_o0) (zk_7_20 hC h_o0) hq) (by decide) rfl (cwV 1 hts gX7_fits_X2_become rfl rfl rfl (by decide +kernel) ⟨Nat.le_of_ble_eq_true rfl, Nat.le_of_ble_eq_true rfl⟩) rfl hl.1 rfl (Nat.le_of_ble_eq_true rfl) dX7_fits_89 ⟨Nat.zero_le _, Nat.zero_le _⟩ (fun M14 J0 H locs hq hw => ?_)
              obtain ⟨hq, rfl⟩ := hq
              refine lv_iload hx hb dX7_fits_92 (lv_at hl 5 rfl) ?_
              refine lv_if_ne (tgt := 110) hx hb dX7_fits_94 (by decide) (fun hc => ?_) (fun hc => ?_)
              · have hq := hq.1 hc
                refine lv_aload_n hx hb dX7_fits_110 rfl (lv_at hl 1 rfl) ?_
                refine lv_iload hx hb dX7_fits_111 (lv_at hl 5 rfl) ?_
                refine lv_iconst (v := (1 : Int32)) hx hb dX7_fits_113 (by decide) ?_
                refine lv_icmp_ne (tgt := 128) hx hb dX7_fits_114 (by decide) (fun hc => ?_) (fun hc => ?_)
                · have hq := hq.1 hc
                  refine lv_aload_n hx hb dX7_fits_128 rfl (lv_at hl 1 rfl) ?_
                  refine lv_iload_n hx hb dX7_fits_129 rfl (lv_at hl 2 rfl) ?_
                  refine lv_aload hx hb dX7_fits_130 (lv_at hl 0 rfl) ?_
                  refine lv_iload_n hx hb dX7_fits_132 rfl (lv_at hl 4 rfl) ?_
                  refine z_cvi ⟨hx, hb, hml, hown, hts⟩ hw h_o0 (kX7_leastVersineThatFits h_o0 hk11 hq) (by decide) rfl (cwV 3 hts gX7_fits_X7_leastVersineThatFits rfl rfl rfl (by decide +kernel) ⟨Nat.le_of_ble_eq_true rfl, Nat.le_of_ble_eq_true rfl⟩) rfl hl.1 rfl (Nat.le_of_ble_eq_true rfl) dX7_fits_133 ⟨Nat.zero_le _, Nat.zero_le _⟩ (fun r15 M16 J0 H locs hq hw => ?_)
                  obtain ⟨hq, rfl⟩ := hq
                  refine z_cvi ⟨hx, hb, hml, hown, hts⟩ hw h_o0 (kX7_fine h_o0 hq) (by decide) rfl (cwV 1 hts gX7_fits_X7_fine rfl rfl rfl (by decide +kernel) ⟨Nat.le_of_ble_eq_true rfl, Nat.le_of_ble_eq_true rfl⟩) rfl hl.1 rfl (Nat.le_of_ble_eq_true rfl) dX7_fits_136 ⟨Nat.zero_le _, Nat.zero_le _⟩ (fun r17 M18 J0 H locs hq hw => ?_)
                  obtain ⟨hq, rfl⟩ := hq
                  exact z_iret hQE hx hb hr hlk hw dX7_fits_139 ⟨hq, rfl⟩
                · have hq := hq.2 hc
                  refine lv_aload_n hx hb dX7_fits_117 rfl (lv_at hl 1 rfl) ?_
                  refine lv_iload_n hx hb dX7_fits_118 rfl (lv_at hl 2 rfl) ?_
                  refine lv_aload hx hb dX7_fits_119 (lv_at hl 0 rfl) ?_
                  refine lv_iload_n hx hb dX7_fits_121 rfl (lv_at hl 4 rfl) ?_
                  refine z_cvi ⟨hx, hb, hml, hown, hts⟩ hw h_o0 (kX7_versinesThatFit h_o0 hk11 hq) (by decide) rfl (cwV 3 hts gX7_fits_X7_versinesThatFit rfl rfl rfl (by decide +kernel) ⟨Nat.le_of_ble_eq_true rfl, Nat.le_of_ble_eq_true rfl⟩) rfl hl.1 rfl (Nat.le_of_ble_eq_true rfl) dX7_fits_122 ⟨Nat.zero_le _, Nat.zero_le _⟩ (fun r19 M20 J0 H locs hq hw => ?_)
                  obtain ⟨hq, rfl⟩ := hq
                  refine lv_goto (tgt := 136) hx hb dX7_fits_125 (by decide) ?_
                  refine z_cvi ⟨hx, hb, hml, hown, hts⟩ hw h_o0 (kX7_fine h_o0 hq) (by decide) rfl (cwV 1 hts gX7_fits_X7_fine rfl rfl rfl (by decide +kernel) ⟨Nat.le_of_ble_eq_true rfl, Nat.le_of_ble_eq_true rfl⟩) rfl hl.1 rfl (Nat.le_of_ble_eq_true rfl) dX7_fits_136 ⟨Nat.zero_le _, Nat.zero_le _⟩ (fun r21 M22 J0 H locs hq hw => ?_)
                  obtain ⟨hq, rfl⟩ := hq
                  exact z_iret hQE hx hb hr hlk hw dX7_fits_139 ⟨hq, rfl⟩
              · have hq := hq.2 hc
                refine lv_aload_n hx hb dX7_fits_97 rfl (lv_at hl 1 rfl) ?_
                refine lv_aload_n hx hb dX7_fits_98 rfl (lv_at hl 1 rfl) ?_
                refine lv_iload_n hx hb dX7_fits_99 rfl (lv_at hl 2 rfl) ?_
                refine lv_aload hx hb dX7_fits_100 (lv_at hl 0 rfl) ?_
                refine lv_iload_n hx hb dX7_fits_102 rfl (lv_at hl 4 rfl) ?_
                refine z_cvi ⟨hx, hb, hml, hown, hts⟩ hw h_o0 (kX7_slewsThatFit h_o0 hk11 hq) (by decide) rfl (cwV 3 hts gX7_fits_X7_slewsThatFit rfl rfl rfl (by decide +kernel) ⟨Nat.le_of_ble_eq_true rfl, Nat.le_of_ble_eq_true rfl⟩) rfl hl.1 rfl (Nat.le_of_ble_eq_true rfl) dX7_fits_103 ⟨Nat.zero_le _, Nat.zero_le _⟩ (fun r23 M24 J0 H locs hq hw => ?_)
                obtain ⟨hq, rfl⟩ := hq
                refine z_cvi ⟨hx, hb, hml, hown, hts⟩ hw h_o0 (kX7_fine h_o0 hq) (by decide) rfl (cwV 1 hts gX7_fits_X7_fine rfl rfl rfl (by decide +kernel) ⟨Nat.le_of_ble_eq_true rfl, Nat.le_of_ble_eq_true rfl⟩) rfl hl.1 rfl (Nat.le_of_ble_eq_true rfl) dX7_fits_106 ⟨Nat.zero_le _, Nat.zero_le _⟩ (fun r25 M26 J0 H locs hq hw => ?_)
                obtain ⟨hq, rfl⟩ := hq
                exact z_iret hQE hx hb hr hlk hw dX7_fits_109 ⟨hq, rfl⟩
            · have hq := hq.2 hc
              refine lv_aload_n hx hb dX7_fits_75 rfl (lv_at hl 1 rfl) ?_
              refine lv_iconst (v := (2 : Int32)) hx hb dX7_fits_76 (by decide) ?_
              refine z_cvi ⟨hx, hb, hml, hown, hts⟩ hw h_o0 (kX7_found h_o0 hq) (by decide) rfl (cwV 1 hts gX7_fits_X7_found rfl rfl rfl (by decide +kernel) ⟨Nat.le_of_ble_eq_true rfl, Nat.le_of_ble_eq_true rfl⟩) rfl hl.1 rfl (Nat.le_of_ble_eq_true rfl) dX7_fits_77 ⟨Nat.zero_le _, Nat.zero_le _⟩ (fun r27 M28 J0 H locs hq hw => ?_)
              obtain ⟨hq, rfl⟩ := hq
              exact z_iret hQE hx hb hr hlk hw dX7_fits_80 ⟨hq, rfl⟩
          · have hq := hq.2 hc
            refine lv_aload_n hx hb dX7_fits_59 rfl (lv_at hl 1 rfl) ?_
            refine lv_iconst (v := (1 : Int32)) hx hb dX7_fits_60 (by decide) ?_
            refine z_cvi ⟨hx, hb, hml, hown, hts⟩ hw h_o0 (kX7_found h_o0 hq) (by decide) rfl (cwV 1 hts gX7_fits_X7_found rfl rfl rfl (by decide +kernel) ⟨Nat.le_of_ble_eq_true rfl, Nat.le_of_ble_eq_true rfl⟩) rfl hl.1 rfl (Nat.le_of_ble_eq_true rfl) dX7_fits_61 ⟨Nat.zero_le _, Nat.zero_le _⟩ (fun r29 M30 J0 H locs hq hw => ?_)
            obtain ⟨hq, rfl⟩ := hq
            exact z_iret hQE hx hb hr hlk hw dX7_fits_64 ⟨hq, rfl⟩
        · have hq := hq.2 hc
          refine lv_ldc (v := (-1000001 : Int32)) hx hb hown q3 dX7_fits_40 ?_
          exact z_iret hQE hx hb hr hlk hw dX7_fits_42 ⟨hq, rfl⟩
set_option maxRecDepth 20000 in
theorem ggX7_tell_X7_isPeg : GoodIn wsX7_tell wsX7_isPeg := goodIn_r _ [14, 4, 5, 15, 16, 13, 17, 59, 60, 61, 62, 63, 64, 65, 66, 67, 68, 72, 73, 74, 75, 76, 77] (by decide +kernel) (by decide +kernel)
set_option maxRecDepth 20000 in
theorem gX7_tell_X7_isPeg : GoodIn wsX7_tell (wsV RX7 146 RX7 yX7_isPeg wsX7_isPeg) := goodIn_app (goodIn_of _ (by decide +kernel)) ggX7_tell_X7_isPeg
set_option maxRecDepth 20000 in
theorem ggX7_tell_X7_isRow : GoodIn wsX7_tell wsX7_isRow := goodIn_r _ [20, 15, 16, 13, 17] (by decide +kernel) (by decide +kernel)
set_option maxRecDepth 20000 in
theorem gX7_tell_X7_isRow : GoodIn wsX7_tell (va_wsS RX7 66 yX7_isRow wsX7_isRow) := goodIn_app (goodIn_of _ (by decide +kernel)) ggX7_tell_X7_isRow
set_option maxRecDepth 20000 in
theorem ggX7_tell_X3_isMissing : GoodIn wsX7_tell wsX3_isMissing := goodIn_r _ [25, 26, 69, 70, 71] (by decide +kernel) (by decide +kernel)
set_option maxRecDepth 20000 in
theorem gX7_tell_X3_isMissing : GoodIn wsX7_tell (wsV RX7 86 RX3 yX3_isMissing wsX3_isMissing) := goodIn_app (goodIn_of _ (by decide +kernel)) ggX7_tell_X3_isMissing
set_option maxRecDepth 20000 in
theorem ggX7_tell_X7_found : GoodIn wsX7_tell wsX7_found := goodIn_r _ [30, 31, 32, 59, 60, 61, 62, 63, 64, 65, 66, 67, 68] (by decide +kernel) (by decide +kernel)
set_option maxRecDepth 20000 in
theorem gX7_tell_X7_found : GoodIn wsX7_tell (wsV RX7 75 RX7 yX7_found wsX7_found) := goodIn_app (goodIn_of _ (by decide +kernel)) ggX7_tell_X7_found
set_option maxRecDepth 20000 in
theorem ggX7_tell_X3_holds : GoodIn wsX7_tell wsX3_holds := goodIn_r _ [36, 37, 69, 70, 71] (by decide +kernel) (by decide +kernel)
set_option maxRecDepth 20000 in
theorem gX7_tell_X3_holds : GoodIn wsX7_tell (wsV RX7 90 RX3 yX3_holds wsX3_holds) := goodIn_app (goodIn_of _ (by decide +kernel)) ggX7_tell_X3_holds
set_option maxRecDepth 20000 in
theorem ggX7_tell_X2_now : GoodIn wsX7_tell wsX2_now := goodIn_r _ [42, 43, 44, 45, 46, 47, 41, 48, 49, 72, 73, 74, 75, 76, 77] (by decide +kernel) (by decide +kernel)
set_option maxRecDepth 20000 in
theorem gX7_tell_X2_now : GoodIn wsX7_tell (wsV RX7 203 RX2 yX2_now wsX2_now) := goodIn_app (goodIn_of _ (by decide +kernel)) ggX7_tell_X2_now
set_option maxRecDepth 20000 in
theorem ggX7_tell_X3_put : GoodIn wsX7_tell wsX3_put := goodIn_r _ [53, 54, 26, 69, 70, 71] (by decide +kernel) (by decide +kernel)
set_option maxRecDepth 20000 in
theorem gX7_tell_X3_put : GoodIn wsX7_tell (wsV RX7 94 RX3 yX3_put wsX3_put) := goodIn_app (goodIn_of _ (by decide +kernel)) ggX7_tell_X3_put
set_option maxRecDepth 20000 in
theorem ggX7_tell_X7_fine : GoodIn wsX7_tell wsX7_fine := goodIn_r _ [58, 31, 59, 60, 61, 62, 63, 64, 65, 66, 67, 68] (by decide +kernel) (by decide +kernel)
set_option maxRecDepth 20000 in
theorem gX7_tell_X7_fine : GoodIn wsX7_tell (wsV RX7 83 RX7 yX7_fine wsX7_fine) := goodIn_app (goodIn_of _ (by decide +kernel)) ggX7_tell_X7_fine
theorem dX7_tell_0 : decode cX7_tell 0 = .ok (.aload_n 0, 1) := by decide +kernel
theorem dX7_tell_1 : decode cX7_tell 1 = .ok (.iload_n 1, 1) := by decide +kernel
theorem dX7_tell_2 : decode cX7_tell 2 = .ok (.invokevirtual 146, 3) := by decide +kernel
theorem dX7_tell_5 : decode cX7_tell 5 = .ok (.ifCond .eq 10, 3) := by decide +kernel
theorem dX7_tell_8 : decode cX7_tell 8 = .ok (.iload_n 2, 1) := by decide +kernel
theorem dX7_tell_9 : decode cX7_tell 9 = .ok (.invokestatic 66, 3) := by decide +kernel
theorem dX7_tell_12 : decode cX7_tell 12 = .ok (.ifCond .ne 6, 3) := by decide +kernel
theorem dX7_tell_15 : decode cX7_tell 15 = .ok (.ldc 74, 2) := by decide +kernel
theorem dX7_tell_17 : decode cX7_tell 17 = .ok (.ireturn, 1) := by decide +kernel
theorem dX7_tell_18 : decode cX7_tell 18 = .ok (.aload_n 0, 1) := by decide +kernel
theorem dX7_tell_19 : decode cX7_tell 19 = .ok (.getfield 11, 3) := by decide +kernel
theorem dX7_tell_22 : decode cX7_tell 22 = .ok (.iload_n 2, 1) := by decide +kernel
theorem dX7_tell_23 : decode cX7_tell 23 = .ok (.aaload, 1) := by decide +kernel
theorem dX7_tell_24 : decode cX7_tell 24 = .ok (.astore 4, 2) := by decide +kernel
theorem dX7_tell_26 : decode cX7_tell 26 = .ok (.aload 4, 2) := by decide +kernel
theorem dX7_tell_28 : decode cX7_tell 28 = .ok (.invokevirtual 86, 3) := by decide +kernel
theorem dX7_tell_31 : decode cX7_tell 31 = .ok (.ifCond .eq 9, 3) := by decide +kernel
theorem dX7_tell_34 : decode cX7_tell 34 = .ok (.aload_n 0, 1) := by decide +kernel
theorem dX7_tell_35 : decode cX7_tell 35 = .ok (.iconst 1, 1) := by decide +kernel
theorem dX7_tell_36 : decode cX7_tell 36 = .ok (.invokevirtual 75, 3) := by decide +kernel
theorem dX7_tell_39 : decode cX7_tell 39 = .ok (.ireturn, 1) := by decide +kernel
theorem dX7_tell_40 : decode cX7_tell 40 = .ok (.aload 4, 2) := by decide +kernel
theorem dX7_tell_42 : decode cX7_tell 42 = .ok (.iload_n 3, 1) := by decide +kernel
theorem dX7_tell_43 : decode cX7_tell 43 = .ok (.iconst 0, 1) := by decide +kernel
theorem dX7_tell_44 : decode cX7_tell 44 = .ok (.invokevirtual 90, 3) := by decide +kernel
theorem dX7_tell_47 : decode cX7_tell 47 = .ok (.ifCond .ne 9, 3) := by decide +kernel
theorem dX7_tell_50 : decode cX7_tell 50 = .ok (.aload_n 0, 1) := by decide +kernel
theorem dX7_tell_51 : decode cX7_tell 51 = .ok (.iconst 2, 1) := by decide +kernel
theorem dX7_tell_52 : decode cX7_tell 52 = .ok (.invokevirtual 75, 3) := by decide +kernel
theorem dX7_tell_55 : decode cX7_tell 55 = .ok (.ireturn, 1) := by decide +kernel
theorem dX7_tell_56 : decode cX7_tell 56 = .ok (.aload 4, 2) := by decide +kernel
theorem dX7_tell_58 : decode cX7_tell 58 = .ok (.getfield 261, 3) := by decide +kernel
theorem dX7_tell_61 : decode cX7_tell 61 = .ok (.iload_n 3, 1) := by decide +kernel
theorem dX7_tell_62 : decode cX7_tell 62 = .ok (.isub, 1) := by decide +kernel
theorem dX7_tell_63 : decode cX7_tell 63 = .ok (.aload_n 0, 1) := by decide +kernel
theorem dX7_tell_64 : decode cX7_tell 64 = .ok (.getfield 25, 3) := by decide +kernel
theorem dX7_tell_67 : decode cX7_tell 67 = .ok (.getfield 140, 3) := by decide +kernel
theorem dX7_tell_70 : decode cX7_tell 70 = .ok (.iload_n 1, 1) := by decide +kernel
theorem dX7_tell_71 : decode cX7_tell 71 = .ok (.isub, 1) := by decide +kernel
theorem dX7_tell_72 : decode cX7_tell 72 = .ok (.invokestatic 179, 3) := by decide +kernel
theorem dX7_tell_75 : decode cX7_tell 75 = .ok (.istore 5, 2) := by decide +kernel
theorem dX7_tell_77 : decode cX7_tell 77 = .ok (.iconst 0, 1) := by decide +kernel
theorem dX7_tell_78 : decode cX7_tell 78 = .ok (.istore 6, 2) := by decide +kernel
theorem dX7_tell_80 : decode cX7_tell 80 = .ok (.iload 6, 2) := by decide +kernel
theorem dX7_tell_82 : decode cX7_tell 82 = .ok (.iload 5, 2) := by decide +kernel
theorem dX7_tell_84 : decode cX7_tell 84 = .ok (.if_icmp .ge 30, 3) := by decide +kernel
theorem dX7_tell_87 : decode cX7_tell 87 = .ok (.aload 4, 2) := by decide +kernel
theorem dX7_tell_89 : decode cX7_tell 89 = .ok (.iload_n 3, 1) := by decide +kernel
theorem dX7_tell_90 : decode cX7_tell 90 = .ok (.iload 6, 2) := by decide +kernel
theorem dX7_tell_92 : decode cX7_tell 92 = .ok (.iadd, 1) := by decide +kernel
theorem dX7_tell_93 : decode cX7_tell 93 = .ok (.aload_n 0, 1) := by decide +kernel
theorem dX7_tell_94 : decode cX7_tell 94 = .ok (.getfield 25, 3) := by decide +kernel
theorem dX7_tell_97 : decode cX7_tell 97 = .ok (.iload_n 1, 1) := by decide +kernel
theorem dX7_tell_98 : decode cX7_tell 98 = .ok (.iload 6, 2) := by decide +kernel
theorem dX7_tell_100 : decode cX7_tell 100 = .ok (.iadd, 1) := by decide +kernel
theorem dX7_tell_101 : decode cX7_tell 101 = .ok (.invokevirtual 203, 3) := by decide +kernel
theorem dX7_tell_104 : decode cX7_tell 104 = .ok (.invokevirtual 94, 3) := by decide +kernel
theorem dX7_tell_107 : decode cX7_tell 107 = .ok (.pop, 1) := by decide +kernel
theorem dX7_tell_108 : decode cX7_tell 108 = .ok (.iinc 6 1, 3) := by decide +kernel
theorem dX7_tell_111 : decode cX7_tell 111 = .ok (.goto (-31), 3) := by decide +kernel
theorem dX7_tell_114 : decode cX7_tell 114 = .ok (.aload_n 0, 1) := by decide +kernel
theorem dX7_tell_115 : decode cX7_tell 115 = .ok (.iload 5, 2) := by decide +kernel
theorem dX7_tell_117 : decode cX7_tell 117 = .ok (.invokevirtual 83, 3) := by decide +kernel
theorem dX7_tell_120 : decode cX7_tell 120 = .ok (.ireturn, 1) := by decide +kernel
def rmX7_tell : Room := { frames := 2, cells := 0, slots := 0, locals := 43 }
def lpX7_tell_80 (M : zM) (o0 : Nat) (x1 : Int32) (x2 : Int32) (x3 : Int32) (x11 : Int32) (Q : Int32 → zM → Prop) : Nat → Int32 → zM → Prop
  | 0, _, _ => False
  | fu80 + 1, x12, M13 =>
    (((zmin x11 ((M (o0 + 20) 0) - x1)) ≤ x12) → (
    wX7_fine M13 o0 (zmin x11 ((M (o0 + 20) 0) - x1)) (fun r14 M15 =>
    Q r14 M15))) ∧
    ((¬ (zmin x11 ((M (o0 + 20) 0) - x1)) ≤ x12) → (
    wX2_now M13 (o0 + 20) (x1 + x12) (fun r16 =>
    wX3_put M13 ((o0 + 1) + 1 + 2 * x2.toNatClampNeg) (x3 + x12) r16 (fun r17 M18 =>
    ∀ x19 : Int32, x19 = x12 + (1 : Int32) →
    lpX7_tell_80 M o0 x1 x2 x3 x11 Q fu80 x19 M18))))
def wX7_tell (M : zM) (o0 : Nat) (x1 : Int32) (x2 : Int32) (x3 : Int32) (Q : Int32 → zM → Prop) : Prop :=
    wX7_isPeg M o0 x1 (fun r6 =>
    ((r6 = 0) → (
    Q (-1000001 : Int32) M)) ∧
    ((¬ r6 = 0) → (
    wX7_isRow M x2 (fun r7 =>
    ((¬ r7 = 0) → (
    vp_in x2 8 ∧
    wX3_isMissing M ((o0 + 1) + 1 + 2 * x2.toNatClampNeg) (fun r9 =>
    ((r9 = 0) → (
    wX3_holds M ((o0 + 1) + 1 + 2 * x2.toNatClampNeg) x3 (0 : Int32) (fun r10 =>
    ((¬ r10 = 0) → (
    ∀ x11 : Int32, x11 = ((M ((o0 + 1) + 1 + 2 * x2.toNatClampNeg) 1) - x3) →
    ∃ fu80 : Nat, lpX7_tell_80 M o0 x1 x2 x3 x11 Q fu80 (0 : Int32) M)) ∧
    ((r10 = 0) → (
    wX7_found M o0 (2 : Int32) (fun r20 M21 =>
    Q r20 M21)))))) ∧
    ((¬ r9 = 0) → (
    wX7_found M o0 (1 : Int32) (fun r22 M23 =>
    Q r22 M23)))))) ∧
    ((r7 = 0) → (
    Q (-1000001 : Int32) M))))))
set_option maxHeartbeats 4000000 in
set_option maxRecDepth 100000 in
theorem kX7_tell {l : Launch} {D : va_G} {Y : zY} {ad kd : Nat → Nat} {RL : List Nat} {M : zM} {J : zL} {o0 : Nat} {x1 : Int32} {x2 : Int32} {x3 : Int32} (h_o0 : kd o0 = 7) {Q : Int32 → zM → Prop} (hq : wX7_tell M o0 x1 x2 x3 Q) : zCi l yX7_tell wsX7_tell rmX7_tell [.ref (ad o0), .int x1, .int x2, .int x3] D Y ad kd RL M J (fun r M' J' => Q r M' ∧ J = J') := by
  refine z_meti (cc := cX7_tell) (maxL := 7) (ret := (some .int)) (by decide) rfl (Nat.le_of_ble_eq_true rfl) ?_
  intro p e s m below meth c ls A ar QE hQE hx hb hr hml hown hts hlk hw hl
  have hown : s.vm.findClass RX7 = some m.cls := hown
  have hl : lv_has ls 7 [(0, .ref (ad o0)), (1, .int x1), (2, .int x2), (3, .int x3)] := hl
  have hC := hw.2.2.2.2.2.1
  have g2 : ∀ w ∈ wsX20, w.before ar s = true := (fun w h => hts w (List.mem_cons_of_mem _ (List.mem_append_right _ h)))
  have g3 : ∀ w ∈ wsX30, w.before ar s = true := (fun w h => hts w (List.mem_cons_of_mem _ (List.mem_append_left _ (List.mem_append_right _ h))))
  have g7 : ∀ w ∈ wsX70, w.before ar s = true := (fun w h => hts w (List.mem_cons_of_mem _ (List.mem_append_left _ (List.mem_append_left _ (List.mem_append_right _ h)))))
  have q1 := hts _ (List.mem_of_getElem? (i := 1) rfl)
  have q2 := hts _ (List.mem_of_getElem? (i := 2) rfl)
  have q3 := hts _ (List.mem_of_getElem? (i := 3) rfl)
  have q4 := hts _ (List.mem_of_getElem? (i := 4) rfl)
  have q5 := hts _ (List.mem_of_getElem? (i := 5) rfl)
  have q6 := hts _ (List.mem_of_getElem? (i := 6) rfl)
  have q7 := hts _ (List.mem_of_getElem? (i := 7) rfl)
  have q8 := hts _ (List.mem_of_getElem? (i := 8) rfl)
  have q9 := hts _ (List.mem_of_getElem? (i := 9) rfl)
  unfold wX7_tell at hq
  refine lv_aload_n hx hb dX7_tell_0 rfl (lv_at hl 0 rfl) ?_
  refine lv_iload_n hx hb dX7_tell_1 rfl (lv_at hl 1 rfl) ?_
  refine z_cvi ⟨hx, hb, hml, hown, hts⟩ hw h_o0 (kX7_isPeg h_o0 hq) (by decide) rfl (cwV 1 hts gX7_tell_X7_isPeg rfl rfl rfl (by decide +kernel) ⟨Nat.le_of_ble_eq_true rfl, Nat.le_of_ble_eq_true rfl⟩) rfl hl.1 rfl (Nat.le_of_ble_eq_true rfl) dX7_tell_2 ⟨Nat.zero_le _, Nat.zero_le _⟩ (fun r6 M0 J0 H locs hq hw => ?_)
  obtain ⟨hq, rfl, rfl⟩ := hq
  refine lv_if_eq (tgt := 15) hx hb dX7_tell_5 (by decide) (fun hc => ?_) (fun hc => ?_)
  · have hq := hq.1 hc
    refine lv_ldc (v := (-1000001 : Int32)) hx hb hown q1 dX7_tell_15 ?_
    exact z_iret hQE hx hb hr hlk hw dX7_tell_17 ⟨hq, rfl⟩
  · have hq := hq.2 hc
    refine lv_iload_n hx hb dX7_tell_8 rfl (lv_at hl 2 rfl) ?_
    refine z_csi ⟨hx, hb, hml, hown, hts⟩ hw (kX7_isRow  hq) (va_cwS 1 hts gX7_tell_X7_isRow rfl rfl rfl (by decide +kernel) ⟨Nat.le_of_ble_eq_true rfl, Nat.le_of_ble_eq_true rfl⟩) rfl hl.1 rfl (Nat.le_of_ble_eq_true rfl) dX7_tell_9 ⟨Nat.zero_le _, Nat.zero_le _⟩ (fun r7 M0 J0 H locs hq hw => ?_)
    obtain ⟨hq, rfl, rfl⟩ := hq
    refine lv_if_ne (tgt := 18) hx hb dX7_tell_12 (by decide) (fun hc => ?_) (fun hc => ?_)
    · have hq := hq.1 hc
      refine lv_aload_n hx hb dX7_tell_18 rfl (lv_at hl 0 rfl) ?_
      refine zg7_rows hx hb g7 hown hw h_o0 q2 dX7_tell_19 ?_
      refine lv_iload_n hx hb dX7_tell_22 rfl (lv_at hl 2 rfl) ?_
      obtain ⟨hi, hq⟩ := hq
      have hk8 := zk_13 hC (zk_7_1 hC h_o0) (z_lt hi)
      refine z_ald13 hx hb hw (zk_7_1 hC h_o0) hi dX7_tell_23 ?_
      refine lv_astore (lv' := [(4, .ref (ad ((o0 + 1) + 1 + 2 * x2.toNatClampNeg))), (0, .ref (ad o0)), (1, .int x1), (2, .int x2), (3, .int x3)]) hx hb dX7_tell_24 hl (by decide) rfl (fun ls hl => ?_)
      refine lv_aload hx hb dX7_tell_26 (lv_at hl 0 rfl) ?_
      refine z_cvi ⟨hx, hb, hml, hown, hts⟩ hw hk8 (kX3_isMissing hk8 hq) (by decide) rfl (cwV 0 hts gX7_tell_X3_isMissing rfl rfl rfl (by decide +kernel) ⟨Nat.le_of_ble_eq_true rfl, Nat.le_of_ble_eq_true rfl⟩) rfl hl.1 rfl (Nat.le_of_ble_eq_true rfl) dX7_tell_28 ⟨Nat.zero_le _, Nat.zero_le _⟩ (fun r9 M0 J0 H locs hq hw => ?_)
      obtain ⟨hq, rfl, rfl⟩ := hq
      refine lv_if_eq (tgt := 40) hx hb dX7_tell_31 (by decide) (fun hc => ?_) (fun hc => ?_)
      · have hq := hq.1 hc
        refine lv_aload hx hb dX7_tell_40 (lv_at hl 0 rfl) ?_
        refine lv_iload_n hx hb dX7_tell_42 rfl (lv_at hl 4 rfl) ?_
        refine lv_iconst (v := (0 : Int32)) hx hb dX7_tell_43 (by decide) ?_
        refine z_cvi ⟨hx, hb, hml, hown, hts⟩ hw hk8 (kX3_holds hk8 hq) (by decide) rfl (cwV 2 hts gX7_tell_X3_holds rfl rfl rfl (by decide +kernel) ⟨Nat.le_of_ble_eq_true rfl, Nat.le_of_ble_eq_true rfl⟩) rfl hl.1 rfl (Nat.le_of_ble_eq_true rfl) dX7_tell_44 ⟨Nat.zero_le _, Nat.zero_le _⟩ (fun r10 M0 J0 H locs hq hw => ?_)
        obtain ⟨hq, rfl, rfl⟩ := hq
        refine lv_if_ne (tgt := 56) hx hb dX7_tell_47 (by decide) (fun hc => ?_) (fun hc => ?_)
        · have hq := hq.1 hc
          refine lv_aload hx hb dX7_tell_56 (lv_at hl 0 rfl) ?_
          refine zg3_size hx hb g3 hown hw hk8 q3 dX7_tell_58 ?_
          refine lv_iload_n hx hb dX7_tell_61 rfl (lv_at hl 4 rfl) ?_
          refine lv_isub hx hb dX7_tell_62 ?_
          refine lv_topi (fun x11 e_x11 => ?_)
          have hq := hq x11 e_x11
          refine lv_aload_n hx hb dX7_tell_63 rfl (lv_at hl 1 rfl) ?_
          refine zg7_rail hx hb g7 hown hw h_o0 q4 dX7_tell_64 ?_
          refine zg2_pegs hx hb g2 hown hw (zk_7_20 hC h_o0) q5 dX7_tell_67 ?_
          refine lv_iload_n hx hb dX7_tell_70 rfl (lv_at hl 2 rfl) ?_
          refine lv_isub hx hb dX7_tell_71 ?_
          refine va_mmin hx hb (hml.trans hl.1.symm) hown q6 q7 q8 q9 (Nat.le_of_ble_eq_true rfl) (Nat.le_of_ble_eq_true rfl) (Nat.zero_le _) (Nat.zero_le _) dX7_tell_72 ?_
          refine lv_istore (lv' := [(5, .int (zmin x11 ((M (o0 + 20) 0) - x1))), (4, .ref (ad ((o0 + 1) + 1 + 2 * x2.toNatClampNeg))), (0, .ref (ad o0)), (1, .int x1), (2, .int x2), (3, .int x3)]) hx hb dX7_tell_75 hl (by decide) rfl (fun ls hl => ?_)
          refine lv_iconst (v := (0 : Int32)) hx hb dX7_tell_77 (by decide) ?_
          refine lv_istore (lv' := [(6, .int (0 : Int32)), (5, .int (zmin x11 ((M (o0 + 20) 0) - x1))), (4, .ref (ad ((o0 + 1) + 1 + 2 * x2.toNatClampNeg))), (0, .ref (ad o0)), (1, .int x1), (2, .int x2), (3, .int x3)]) hx hb dX7_tell_78 hl (by decide) rfl (fun ls hl => ?_)
          obtain ⟨fu80, hq⟩ := hq
          have lp80 : ∀ (fu80 : Nat) (x12 : Int32) (M13 : zM) (H : Heap) (locs : List Loc) (ls : Array Slot), lpX7_tell_80 M o0 x1 x2 x3 x11 Q fu80 x12 M13 → zH D Y ad kd RL M13 J A s.heap H locs s → lv_has ls 7 [(0, .ref (ad o0)), (1, .int x1), (3, .int x3), (4, .ref (ad ((o0 + 1) + 1 + 2 * x2.toNatClampNeg))), (5, .int (zmin x11 ((M (o0 + 20) 0) - x1))), (6, .int x12)] → W p l e rmX7_tell s m ar below meth c H locs 0 0 QE (F0 m 80 ls []) := by
            intro fu80
            induction fu80 with
            | zero => intro x12 M13 H locs ls hq; exact hq.elim
            | succ fu80 ih80 =>
              intro x12 M13 H locs ls hq hw hl
              unfold lpX7_tell_80 at hq
              refine lv_iload hx hb dX7_tell_80 (lv_at hl 5 rfl) ?_
              refine lv_iload hx hb dX7_tell_82 (lv_at hl 4 rfl) ?_
              refine lv_icmp_ge (tgt := 114) hx hb dX7_tell_84 (by decide) (fun hc => ?_) (fun hc => ?_)
              · have hq := hq.1 hc
                refine lv_aload_n hx hb dX7_tell_114 rfl (lv_at hl 0 rfl) ?_
                refine lv_iload hx hb dX7_tell_115 (lv_at hl 4 rfl) ?_
                refine z_cvi ⟨hx, hb, hml, hown, hts⟩ hw h_o0 (kX7_fine h_o0 hq) (by decide) rfl (cwV 1 hts gX7_tell_X7_fine rfl rfl rfl (by decide +kernel) ⟨Nat.le_of_ble_eq_true rfl, Nat.le_of_ble_eq_true rfl⟩) rfl hl.1 rfl (Nat.le_of_ble_eq_true rfl) dX7_tell_117 ⟨Nat.zero_le _, Nat.zero_le _⟩ (fun r14 M15 J0 H locs hq hw => ?_)
                obtain ⟨hq, rfl⟩ := hq
                exact z_iret hQE hx hb hr hlk hw dX7_tell_120 ⟨hq, rfl⟩
              · have hq := hq.2 hc
                refine lv_aload hx hb dX7_tell_87 (lv_at hl 3 rfl) ?_
                refine lv_iload_n hx hb dX7_tell_89 rfl (lv_at hl 2 rfl) ?_
                refine lv_iload hx hb dX7_tell_90 (lv_at hl 5 rfl) ?_
                refine lv_iadd hx hb dX7_tell_92 ?_
                refine lv_aload_n hx hb dX7_tell_93 rfl (lv_at hl 0 rfl) ?_
                refine zg7_rail hx hb g7 hown hw h_o0 q4 dX7_tell_94 ?_
                refine lv_iload_n hx hb dX7_tell_97 rfl (lv_at hl 1 rfl) ?_
                refine lv_iload hx hb dX7_tell_98 (lv_at hl 5 rfl) ?_
                refine lv_iadd hx hb dX7_tell_100 ?_
                refine z_cvi ⟨hx, hb, hml, hown, hts⟩ hw (zk_7_20 hC h_o0) (kX2_now (zk_7_20 hC h_o0) hq) (by decide) rfl (cwV 1 hts gX7_tell_X2_now rfl rfl rfl (by decide +kernel) ⟨Nat.le_of_ble_eq_true rfl, Nat.le_of_ble_eq_true rfl⟩) rfl hl.1 rfl (Nat.le_of_ble_eq_true rfl) dX7_tell_101 ⟨Nat.zero_le _, Nat.zero_le _⟩ (fun r16 M0 J0 H locs hq hw => ?_)
                obtain ⟨hq, rfl, rfl⟩ := hq
                refine z_cvi ⟨hx, hb, hml, hown, hts⟩ hw hk8 (kX3_put hk8 hq) (by decide) rfl (cwV 2 hts gX7_tell_X3_put rfl rfl rfl (by decide +kernel) ⟨Nat.le_of_ble_eq_true rfl, Nat.le_of_ble_eq_true rfl⟩) rfl hl.1 rfl (Nat.le_of_ble_eq_true rfl) dX7_tell_104 ⟨Nat.zero_le _, Nat.zero_le _⟩ (fun r17 M18 J0 H locs hq hw => ?_)
                obtain ⟨hq, rfl⟩ := hq
                refine lv_pop hx hb dX7_tell_107 rfl ?_
                obtain ⟨x19, e_x19⟩ : ∃ y : Int32, y = x12 + (1 : Int32) := ⟨_, rfl⟩
                have hq := hq x19 e_x19
                refine lv_iinc (v := x19) (lv' := [(6, .int x19), (0, .ref (ad o0)), (1, .int x1), (3, .int x3), (4, .ref (ad ((o0 + 1) + 1 + 2 * x2.toNatClampNeg))), (5, .int (zmin x11 ((M (o0 + 20) 0) - x1)))]) hx hb dX7_tell_108 hl (k := 5) rfl (by rw [e_x19]; rfl) (by decide) rfl (fun ls hl => ?_)
                refine lv_goto (tgt := 80) hx hb dX7_tell_111 (by decide) ?_
                exact ih80 x19 M18 _ _ _ hq hw (lv_sub hl [1, 2, 3, 4, 5, 0] rfl)
          exact lp80 fu80 (0 : Int32) M _ _ _ hq hw (lv_sub hl [3, 4, 6, 2, 1, 0] rfl)
        · have hq := hq.2 hc
          refine lv_aload_n hx hb dX7_tell_50 rfl (lv_at hl 1 rfl) ?_
          refine lv_iconst (v := (2 : Int32)) hx hb dX7_tell_51 (by decide) ?_
          refine z_cvi ⟨hx, hb, hml, hown, hts⟩ hw h_o0 (kX7_found h_o0 hq) (by decide) rfl (cwV 1 hts gX7_tell_X7_found rfl rfl rfl (by decide +kernel) ⟨Nat.le_of_ble_eq_true rfl, Nat.le_of_ble_eq_true rfl⟩) rfl hl.1 rfl (Nat.le_of_ble_eq_true rfl) dX7_tell_52 ⟨Nat.zero_le _, Nat.zero_le _⟩ (fun r20 M21 J0 H locs hq hw => ?_)
          obtain ⟨hq, rfl⟩ := hq
          exact z_iret hQE hx hb hr hlk hw dX7_tell_55 ⟨hq, rfl⟩
      · have hq := hq.2 hc
        refine lv_aload_n hx hb dX7_tell_34 rfl (lv_at hl 1 rfl) ?_
        refine lv_iconst (v := (1 : Int32)) hx hb dX7_tell_35 (by decide) ?_
        refine z_cvi ⟨hx, hb, hml, hown, hts⟩ hw h_o0 (kX7_found h_o0 hq) (by decide) rfl (cwV 1 hts gX7_tell_X7_found rfl rfl rfl (by decide +kernel) ⟨Nat.le_of_ble_eq_true rfl, Nat.le_of_ble_eq_true rfl⟩) rfl hl.1 rfl (Nat.le_of_ble_eq_true rfl) dX7_tell_36 ⟨Nat.zero_le _, Nat.zero_le _⟩ (fun r22 M23 J0 H locs hq hw => ?_)
        obtain ⟨hq, rfl⟩ := hq
        exact z_iret hQE hx hb hr hlk hw dX7_tell_39 ⟨hq, rfl⟩
    · have hq := hq.2 hc
      refine lv_ldc (v := (-1000001 : Int32)) hx hb hown q1 dX7_tell_15 ?_
      exact z_iret hQE hx hb hr hlk hw dX7_tell_17 ⟨hq, rfl⟩
set_option maxRecDepth 20000 in
theorem ggX7_chance_X2_isThere : GoodIn wsX7_chance wsX2_isThere := goodIn_r _ [11, 12, 96, 97, 98, 99, 100, 101] (by decide +kernel) (by decide +kernel)
set_option maxRecDepth 20000 in
theorem gX7_chance_X2_isThere : GoodIn wsX7_chance (wsV RX7 164 RX2 yX2_isThere wsX2_isThere) := goodIn_app (goodIn_of _ (by decide +kernel)) ggX7_chance_X2_isThere
set_option maxRecDepth 20000 in
theorem ggX7_chance_X7_isWithin : GoodIn wsX7_chance wsX7_isWithin := goodIn_r _ [16] (by decide +kernel) (by decide +kernel)
set_option maxRecDepth 20000 in
theorem gX7_chance_X7_isWithin : GoodIn wsX7_chance (va_wsS RX7 70 yX7_isWithin wsX7_isWithin) := goodIn_app (goodIn_of _ (by decide +kernel)) ggX7_chance_X7_isWithin
set_option maxRecDepth 20000 in
theorem ggX7_chance_X5_solve : GoodIn wsX7_chance wsX5_solve := goodIn_r _ [21, 22, 23, 24, 25, 26, 27, 28, 29, 30, 20, 31, 32, 33, 34, 35, 36, 37, 38, 39, 40, 41, 42, 43, 44, 45, 10, 46, 47, 48, 49, 50, 12, 51, 52, 53, 54, 55, 56, 57, 58, 59, 60, 61, 62, 63, 64, 65, 66, 67, 68, 69, 70, 71, 72, 73, 74, 75, 76, 77, 78, 79, 80, 91, 92, 93, 94, 95, 96, 97, 98, 99, 100, 101] (by decide +kernel) (by decide +kernel)
set_option maxRecDepth 20000 in
theorem gX7_chance_X5_solve : GoodIn wsX7_chance (wsV RX7 268 RX5 yX5_solve wsX5_solve) := goodIn_app (goodIn_of _ (by decide +kernel)) ggX7_chance_X5_solve
theorem dX7_chance_0 : decode cX7_chance 0 = .ok (.aload_n 0, 1) := by decide +kernel
theorem dX7_chance_1 : decode cX7_chance 1 = .ok (.getfield 25, 3) := by decide +kernel
theorem dX7_chance_4 : decode cX7_chance 4 = .ok (.invokevirtual 164, 3) := by decide +kernel
theorem dX7_chance_7 : decode cX7_chance 7 = .ok (.ifCond .ne 7, 3) := by decide +kernel
theorem dX7_chance_10 : decode cX7_chance 10 = .ok (.ldc2_w 264, 3) := by decide +kernel
theorem dX7_chance_13 : decode cX7_chance 13 = .ok (.lreturn, 1) := by decide +kernel
theorem dX7_chance_14 : decode cX7_chance 14 = .ok (.iload_n 1, 1) := by decide +kernel
theorem dX7_chance_15 : decode cX7_chance 15 = .ok (.iconst 0, 1) := by decide +kernel
theorem dX7_chance_16 : decode cX7_chance 16 = .ok (.bipush 99, 2) := by decide +kernel
theorem dX7_chance_18 : decode cX7_chance 18 = .ok (.invokestatic 70, 3) := by decide +kernel
theorem dX7_chance_21 : decode cX7_chance 21 = .ok (.ifCond .eq 22, 3) := by decide +kernel
theorem dX7_chance_24 : decode cX7_chance 24 = .ok (.iload_n 2, 1) := by decide +kernel
theorem dX7_chance_25 : decode cX7_chance 25 = .ok (.iconst 0, 1) := by decide +kernel
theorem dX7_chance_26 : decode cX7_chance 26 = .ok (.bipush 10, 2) := by decide +kernel
theorem dX7_chance_28 : decode cX7_chance 28 = .ok (.invokestatic 70, 3) := by decide +kernel
theorem dX7_chance_31 : decode cX7_chance 31 = .ok (.ifCond .eq 12, 3) := by decide +kernel
theorem dX7_chance_34 : decode cX7_chance 34 = .ok (.iload_n 3, 1) := by decide +kernel
theorem dX7_chance_35 : decode cX7_chance 35 = .ok (.iconst 0, 1) := by decide +kernel
theorem dX7_chance_36 : decode cX7_chance 36 = .ok (.iconst 1, 1) := by decide +kernel
theorem dX7_chance_37 : decode cX7_chance 37 = .ok (.invokestatic 70, 3) := by decide +kernel
theorem dX7_chance_40 : decode cX7_chance 40 = .ok (.ifCond .ne 7, 3) := by decide +kernel
theorem dX7_chance_43 : decode cX7_chance 43 = .ok (.ldc2_w 266, 3) := by decide +kernel
theorem dX7_chance_46 : decode cX7_chance 46 = .ok (.lreturn, 1) := by decide +kernel
theorem dX7_chance_47 : decode cX7_chance 47 = .ok (.aload_n 0, 1) := by decide +kernel
theorem dX7_chance_48 : decode cX7_chance 48 = .ok (.getfield 53, 3) := by decide +kernel
theorem dX7_chance_51 : decode cX7_chance 51 = .ok (.aload_n 0, 1) := by decide +kernel
theorem dX7_chance_52 : decode cX7_chance 52 = .ok (.getfield 25, 3) := by decide +kernel
theorem dX7_chance_55 : decode cX7_chance 55 = .ok (.iload_n 1, 1) := by decide +kernel
theorem dX7_chance_56 : decode cX7_chance 56 = .ok (.iload_n 2, 1) := by decide +kernel
theorem dX7_chance_57 : decode cX7_chance 57 = .ok (.invokevirtual 268, 3) := by decide +kernel
theorem dX7_chance_60 : decode cX7_chance 60 = .ok (.iload_n 3, 1) := by decide +kernel
theorem dX7_chance_61 : decode cX7_chance 61 = .ok (.ifCond .ne 13, 3) := by decide +kernel
theorem dX7_chance_64 : decode cX7_chance 64 = .ok (.aload_n 0, 1) := by decide +kernel
theorem dX7_chance_65 : decode cX7_chance 65 = .ok (.getfield 53, 3) := by decide +kernel
theorem dX7_chance_68 : decode cX7_chance 68 = .ok (.getfield 271, 3) := by decide +kernel
theorem dX7_chance_71 : decode cX7_chance 71 = .ok (.goto 10, 3) := by decide +kernel
theorem dX7_chance_74 : decode cX7_chance 74 = .ok (.aload_n 0, 1) := by decide +kernel
theorem dX7_chance_75 : decode cX7_chance 75 = .ok (.getfield 53, 3) := by decide +kernel
theorem dX7_chance_78 : decode cX7_chance 78 = .ok (.getfield 275, 3) := by decide +kernel
theorem dX7_chance_81 : decode cX7_chance 81 = .ok (.lreturn, 1) := by decide +kernel
def rmX7_chance : Room := { frames := 6, cells := 0, slots := 0, locals := 142 }
def wX7_chance (M : zM) (J : zL) (o0 : Nat) (x1 : Int32) (x2 : Int32) (x3 : Int32) (Q : Int64 → zM → zL → Prop) : Prop :=
    wX2_isThere M (o0 + 20) (fun r6 =>
    ((¬ r6 = 0) → (
    wX7_isWithin M x1 (0 : Int32) (99 : Int32) (fun r7 =>
    ((r7 = 0) → (
    Q (-1000001 : Int64) M J)) ∧
    ((¬ r7 = 0) → (
    wX7_isWithin M x2 (0 : Int32) (10 : Int32) (fun r8 =>
    ((r8 = 0) → (
    Q (-1000001 : Int64) M J)) ∧
    ((¬ r8 = 0) → (
    wX7_isWithin M x3 (0 : Int32) (1 : Int32) (fun r9 =>
    ((¬ r9 = 0) → (
    wX5_solve M J (o0 + 165) (o0 + 20) x1 x2 (fun M10 J11 =>
    ((¬ x3 = 0) → (
    Q (J11 (o0 + 165) 1) M10 J11)) ∧
    ((x3 = 0) → (
    Q (J11 (o0 + 165) 0) M10 J11))))) ∧
    ((r9 = 0) → (
    Q (-1000001 : Int64) M J))))))))))) ∧
    ((r6 = 0) → (
    Q (-1000002 : Int64) M J)))
set_option maxHeartbeats 4000000 in
set_option maxRecDepth 100000 in
theorem kX7_chance {l : Launch} {D : va_G} {Y : zY} {ad kd : Nat → Nat} {RL : List Nat} {M : zM} {J : zL} {o0 : Nat} {x1 : Int32} {x2 : Int32} {x3 : Int32} (h_o0 : kd o0 = 7) {Q : Int64 → zM → zL → Prop} (hq : wX7_chance M J o0 x1 x2 x3 Q) : zCl_ l yX7_chance wsX7_chance rmX7_chance [.ref (ad o0), .int x1, .int x2, .int x3] D Y ad kd RL M J (fun r M' J' => Q r M' J') := by
  refine z_metl (cc := cX7_chance) (maxL := 4) (ret := (some .long)) (by decide) rfl (Nat.le_of_ble_eq_true rfl) ?_
  intro p e s m below meth c ls A ar QE hQE hx hb hr hml hown hts hlk hw hl
  have hown : s.vm.findClass RX7 = some m.cls := hown
  have hl : lv_has ls 4 [(0, .ref (ad o0)), (1, .int x1), (2, .int x2), (3, .int x3)] := hl
  have hC := hw.2.2.2.2.2.1
  have g5 : ∀ w ∈ wsX50, w.before ar s = true := (fun w h => hts w (List.mem_cons_of_mem _ (List.mem_append_left _ (List.mem_append_right _ h))))
  have g7 : ∀ w ∈ wsX70, w.before ar s = true := (fun w h => hts w (List.mem_cons_of_mem _ (List.mem_append_left _ (List.mem_append_left _ (List.mem_append_right _ h)))))
  have q1 := hts _ (List.mem_of_getElem? (i := 1) rfl)
  have q2 := hts _ (List.mem_of_getElem? (i := 2) rfl)
  have q3 := hts _ (List.mem_of_getElem? (i := 3) rfl)
  have q4 := hts _ (List.mem_of_getElem? (i := 4) rfl)
  have q5 := hts _ (List.mem_of_getElem? (i := 5) rfl)
  have q6 := hts _ (List.mem_of_getElem? (i := 6) rfl)
  unfold wX7_chance at hq
  refine lv_aload_n hx hb dX7_chance_0 rfl (lv_at hl 0 rfl) ?_
  refine zg7_rail hx hb g7 hown hw h_o0 q1 dX7_chance_1 ?_
  refine z_cvi ⟨hx, hb, hml, hown, hts⟩ hw (zk_7_20 hC h_o0) (kX2_isThere (zk_7_20 hC h_o0) hq) (by decide) rfl (cwV 0 hts gX7_chance_X2_isThere rfl rfl rfl (by decide +kernel) ⟨Nat.le_of_ble_eq_true rfl, Nat.le_of_ble_eq_true rfl⟩) rfl hl.1 rfl (Nat.le_of_ble_eq_true rfl) dX7_chance_4 ⟨Nat.zero_le _, Nat.zero_le _⟩ (fun r6 M0 J0 H locs hq hw => ?_)
  obtain ⟨hq, rfl, rfl⟩ := hq
  refine lv_if_ne (tgt := 14) hx hb dX7_chance_7 (by decide) (fun hc => ?_) (fun hc => ?_)
  · have hq := hq.1 hc
    refine lv_iload_n hx hb dX7_chance_14 rfl (lv_at hl 1 rfl) ?_
    refine lv_iconst (v := (0 : Int32)) hx hb dX7_chance_15 (by decide) ?_
    refine lv_bipush (v := (99 : Int32)) hx hb dX7_chance_16 (by decide) ?_
    refine z_csi ⟨hx, hb, hml, hown, hts⟩ hw (kX7_isWithin  hq) (va_cwS 3 hts gX7_chance_X7_isWithin rfl rfl rfl (by decide +kernel) ⟨Nat.le_of_ble_eq_true rfl, Nat.le_of_ble_eq_true rfl⟩) rfl hl.1 rfl (Nat.le_of_ble_eq_true rfl) dX7_chance_18 ⟨Nat.zero_le _, Nat.zero_le _⟩ (fun r7 M0 J0 H locs hq hw => ?_)
    obtain ⟨hq, rfl, rfl⟩ := hq
    refine lv_if_eq (tgt := 43) hx hb dX7_chance_21 (by decide) (fun hc => ?_) (fun hc => ?_)
    · have hq := hq.1 hc
      refine lv_ldc2 (v := (-1000001 : Int64)) hx hb hown q3 dX7_chance_43 ?_
      exact z_lret hQE hx hb hr hlk hw dX7_chance_46 hq
    · have hq := hq.2 hc
      refine lv_iload_n hx hb dX7_chance_24 rfl (lv_at hl 2 rfl) ?_
      refine lv_iconst (v := (0 : Int32)) hx hb dX7_chance_25 (by decide) ?_
      refine lv_bipush (v := (10 : Int32)) hx hb dX7_chance_26 (by decide) ?_
      refine z_csi ⟨hx, hb, hml, hown, hts⟩ hw (kX7_isWithin  hq) (va_cwS 3 hts gX7_chance_X7_isWithin rfl rfl rfl (by decide +kernel) ⟨Nat.le_of_ble_eq_true rfl, Nat.le_of_ble_eq_true rfl⟩) rfl hl.1 rfl (Nat.le_of_ble_eq_true rfl) dX7_chance_28 ⟨Nat.zero_le _, Nat.zero_le _⟩ (fun r8 M0 J0 H locs hq hw => ?_)
      obtain ⟨hq, rfl, rfl⟩ := hq
      refine lv_if_eq (tgt := 43) hx hb dX7_chance_31 (by decide) (fun hc => ?_) (fun hc => ?_)
      · have hq := hq.1 hc
        refine lv_ldc2 (v := (-1000001 : Int64)) hx hb hown q3 dX7_chance_43 ?_
        exact z_lret hQE hx hb hr hlk hw dX7_chance_46 hq
      · have hq := hq.2 hc
        refine lv_iload_n hx hb dX7_chance_34 rfl (lv_at hl 3 rfl) ?_
        refine lv_iconst (v := (0 : Int32)) hx hb dX7_chance_35 (by decide) ?_
        refine lv_iconst (v := (1 : Int32)) hx hb dX7_chance_36 (by decide) ?_
        refine z_csi ⟨hx, hb, hml, hown, hts⟩ hw (kX7_isWithin  hq) (va_cwS 3 hts gX7_chance_X7_isWithin rfl rfl rfl (by decide +kernel) ⟨Nat.le_of_ble_eq_true rfl, Nat.le_of_ble_eq_true rfl⟩) rfl hl.1 rfl (Nat.le_of_ble_eq_true rfl) dX7_chance_37 ⟨Nat.zero_le _, Nat.zero_le _⟩ (fun r9 M0 J0 H locs hq hw => ?_)
        obtain ⟨hq, rfl, rfl⟩ := hq
        refine lv_if_ne (tgt := 47) hx hb dX7_chance_40 (by decide) (fun hc => ?_) (fun hc => ?_)
        · have hq := hq.1 hc
          refine lv_aload_n hx hb dX7_chance_47 rfl (lv_at hl 0 rfl) ?_
          refine zg7_settling hx hb g7 hown hw h_o0 q4 dX7_chance_48 ?_
          refine lv_aload_n hx hb dX7_chance_51 rfl (lv_at hl 0 rfl) ?_
          refine zg7_rail hx hb g7 hown hw h_o0 q1 dX7_chance_52 ?_
          refine lv_iload_n hx hb dX7_chance_55 rfl (lv_at hl 1 rfl) ?_
          refine lv_iload_n hx hb dX7_chance_56 rfl (lv_at hl 2 rfl) ?_
          refine z_cvv ⟨hx, hb, hml, hown, hts⟩ hw (zk_7_165 hC h_o0) (kX5_solve (zk_7_165 hC h_o0) (zk_7_20 hC h_o0) hq) (by decide) rfl (cwV 3 hts gX7_chance_X5_solve rfl rfl rfl (by decide +kernel) ⟨Nat.le_of_ble_eq_true rfl, Nat.le_of_ble_eq_true rfl⟩) rfl hl.1 rfl (Nat.le_of_ble_eq_true rfl) dX7_chance_57 ⟨Nat.zero_le _, Nat.zero_le _⟩ (fun M10 J11 H locs hq hw => ?_)
          refine lv_iload_n hx hb dX7_chance_60 rfl (lv_at hl 3 rfl) ?_
          refine lv_if_ne (tgt := 74) hx hb dX7_chance_61 (by decide) (fun hc => ?_) (fun hc => ?_)
          · have hq := hq.1 hc
            refine lv_aload_n hx hb dX7_chance_74 rfl (lv_at hl 0 rfl) ?_
            refine zg7_settling hx hb g7 hown hw h_o0 q4 dX7_chance_75 ?_
            refine zg5_below hx hb g5 hown hw (zk_7_165 hC h_o0) q6 dX7_chance_78 ?_
            exact z_lret hQE hx hb hr hlk hw dX7_chance_81 hq
          · have hq := hq.2 hc
            refine lv_aload_n hx hb dX7_chance_64 rfl (lv_at hl 0 rfl) ?_
            refine zg7_settling hx hb g7 hown hw h_o0 q4 dX7_chance_65 ?_
            refine zg5_above hx hb g5 hown hw (zk_7_165 hC h_o0) q5 dX7_chance_68 ?_
            refine lv_goto (tgt := 81) hx hb dX7_chance_71 (by decide) ?_
            exact z_lret hQE hx hb hr hlk hw dX7_chance_81 hq
        · have hq := hq.2 hc
          refine lv_ldc2 (v := (-1000001 : Int64)) hx hb hown q3 dX7_chance_43 ?_
          exact z_lret hQE hx hb hr hlk hw dX7_chance_46 hq
  · have hq := hq.2 hc
    refine lv_ldc2 (v := (-1000002 : Int64)) hx hb hown q2 dX7_chance_10 ?_
    exact z_lret hQE hx hb hr hlk hw dX7_chance_13 hq
set_option maxRecDepth 20000 in
theorem ggX7_drawn_X2_isThere : GoodIn wsX7_drawn wsX2_isThere := goodIn_r _ [10, 11, 100, 101, 102, 103, 104, 105] (by decide +kernel) (by decide +kernel)
set_option maxRecDepth 20000 in
theorem gX7_drawn_X2_isThere : GoodIn wsX7_drawn (wsV RX7 164 RX2 yX2_isThere wsX2_isThere) := goodIn_app (goodIn_of _ (by decide +kernel)) ggX7_drawn_X2_isThere
set_option maxRecDepth 20000 in
theorem ggX7_drawn_X7_isWithin : GoodIn wsX7_drawn wsX7_isWithin := goodIn_r _ [15] (by decide +kernel) (by decide +kernel)
set_option maxRecDepth 20000 in
theorem gX7_drawn_X7_isWithin : GoodIn wsX7_drawn (va_wsS RX7 70 yX7_isWithin wsX7_isWithin) := goodIn_app (goodIn_of _ (by decide +kernel)) ggX7_drawn_X7_isWithin
set_option maxRecDepth 20000 in
theorem ggX7_drawn_X2_become : GoodIn wsX7_drawn wsX2_become := goodIn_r _ [19, 11, 20, 21, 22, 23, 24, 25, 26, 27, 28, 100, 101, 102, 103, 104, 105] (by decide +kernel) (by decide +kernel)
set_option maxRecDepth 20000 in
theorem gX7_drawn_X2_become : GoodIn wsX7_drawn (wsV RX7 133 RX2 yX2_become wsX2_become) := goodIn_app (goodIn_of _ (by decide +kernel)) ggX7_drawn_X2_become
set_option maxRecDepth 20000 in
theorem ggX7_drawn_X2_passYears : GoodIn wsX7_drawn wsX2_passYears := goodIn_r _ [32, 11, 33, 34, 35, 36, 37, 38, 39, 28, 40, 41, 42, 9, 43, 21, 27, 44, 45, 46, 47, 48, 49, 50, 26, 51, 52, 53, 54, 55, 56, 57, 58, 59, 60, 61, 62, 63, 64, 65, 66, 67, 68, 69, 70, 71, 72, 73, 74, 75, 76, 77, 100, 101, 102, 103, 104, 105] (by decide +kernel) (by decide +kernel)
set_option maxRecDepth 20000 in
theorem gX7_drawn_X2_passYears : GoodIn wsX7_drawn (wsV RX7 279 RX2 yX2_passYears wsX2_passYears) := goodIn_app (goodIn_of _ (by decide +kernel)) ggX7_drawn_X2_passYears
set_option maxRecDepth 20000 in
theorem ggX7_drawn_X2_worst : GoodIn wsX7_drawn wsX2_worst := goodIn_r _ [81, 11, 44, 45, 38, 46, 82, 83, 84, 9, 85, 36, 37, 39, 86, 87, 88, 89, 21, 66, 67, 68, 69, 26, 28, 58, 59, 60, 61, 100, 101, 102, 103, 104, 105] (by decide +kernel) (by decide +kernel)
set_option maxRecDepth 20000 in
theorem gX7_drawn_X2_worst : GoodIn wsX7_drawn (wsV RX7 185 RX2 yX2_worst wsX2_worst) := goodIn_app (goodIn_of _ (by decide +kernel)) ggX7_drawn_X2_worst
theorem dX7_drawn_0 : decode cX7_drawn 0 = .ok (.aload_n 0, 1) := by decide +kernel
theorem dX7_drawn_1 : decode cX7_drawn 1 = .ok (.getfield 25, 3) := by decide +kernel
theorem dX7_drawn_4 : decode cX7_drawn 4 = .ok (.invokevirtual 164, 3) := by decide +kernel
theorem dX7_drawn_7 : decode cX7_drawn 7 = .ok (.ifCond .ne 6, 3) := by decide +kernel
theorem dX7_drawn_10 : decode cX7_drawn 10 = .ok (.ldc 157, 2) := by decide +kernel
theorem dX7_drawn_12 : decode cX7_drawn 12 = .ok (.ireturn, 1) := by decide +kernel
theorem dX7_drawn_13 : decode cX7_drawn 13 = .ok (.iload_n 1, 1) := by decide +kernel
theorem dX7_drawn_14 : decode cX7_drawn 14 = .ok (.iconst 0, 1) := by decide +kernel
theorem dX7_drawn_15 : decode cX7_drawn 15 = .ok (.bipush 60, 2) := by decide +kernel
theorem dX7_drawn_17 : decode cX7_drawn 17 = .ok (.invokestatic 70, 3) := by decide +kernel
theorem dX7_drawn_20 : decode cX7_drawn 20 = .ok (.ifCond .eq 23, 3) := by decide +kernel
theorem dX7_drawn_23 : decode cX7_drawn 23 = .ok (.iload_n 2, 1) := by decide +kernel
theorem dX7_drawn_24 : decode cX7_drawn 24 = .ok (.iconst 1, 1) := by decide +kernel
theorem dX7_drawn_25 : decode cX7_drawn 25 = .ok (.ldc_w 278, 3) := by decide +kernel
theorem dX7_drawn_28 : decode cX7_drawn 28 = .ok (.invokestatic 70, 3) := by decide +kernel
theorem dX7_drawn_31 : decode cX7_drawn 31 = .ok (.ifCond .eq 12, 3) := by decide +kernel
theorem dX7_drawn_34 : decode cX7_drawn 34 = .ok (.iload_n 3, 1) := by decide +kernel
theorem dX7_drawn_35 : decode cX7_drawn 35 = .ok (.iconst 0, 1) := by decide +kernel
theorem dX7_drawn_36 : decode cX7_drawn 36 = .ok (.iconst 1, 1) := by decide +kernel
theorem dX7_drawn_37 : decode cX7_drawn 37 = .ok (.invokestatic 70, 3) := by decide +kernel
theorem dX7_drawn_40 : decode cX7_drawn 40 = .ok (.ifCond .ne 6, 3) := by decide +kernel
theorem dX7_drawn_43 : decode cX7_drawn 43 = .ok (.ldc 74, 2) := by decide +kernel
theorem dX7_drawn_45 : decode cX7_drawn 45 = .ok (.ireturn, 1) := by decide +kernel
theorem dX7_drawn_46 : decode cX7_drawn 46 = .ok (.aload_n 0, 1) := by decide +kernel
theorem dX7_drawn_47 : decode cX7_drawn 47 = .ok (.getfield 29, 3) := by decide +kernel
theorem dX7_drawn_50 : decode cX7_drawn 50 = .ok (.aload_n 0, 1) := by decide +kernel
theorem dX7_drawn_51 : decode cX7_drawn 51 = .ok (.getfield 25, 3) := by decide +kernel
theorem dX7_drawn_54 : decode cX7_drawn 54 = .ok (.invokevirtual 133, 3) := by decide +kernel
theorem dX7_drawn_57 : decode cX7_drawn 57 = .ok (.aload_n 0, 1) := by decide +kernel
theorem dX7_drawn_58 : decode cX7_drawn 58 = .ok (.getfield 29, 3) := by decide +kernel
theorem dX7_drawn_61 : decode cX7_drawn 61 = .ok (.iload_n 1, 1) := by decide +kernel
theorem dX7_drawn_62 : decode cX7_drawn 62 = .ok (.iload_n 2, 1) := by decide +kernel
theorem dX7_drawn_63 : decode cX7_drawn 63 = .ok (.invokevirtual 279, 3) := by decide +kernel
theorem dX7_drawn_66 : decode cX7_drawn 66 = .ok (.istore 4, 2) := by decide +kernel
theorem dX7_drawn_68 : decode cX7_drawn 68 = .ok (.iload_n 3, 1) := by decide +kernel
theorem dX7_drawn_69 : decode cX7_drawn 69 = .ok (.ifCond .ne 13, 3) := by decide +kernel
theorem dX7_drawn_72 : decode cX7_drawn 72 = .ok (.aload_n 0, 1) := by decide +kernel
theorem dX7_drawn_73 : decode cX7_drawn 73 = .ok (.getfield 29, 3) := by decide +kernel
theorem dX7_drawn_76 : decode cX7_drawn 76 = .ok (.invokevirtual 185, 3) := by decide +kernel
theorem dX7_drawn_79 : decode cX7_drawn 79 = .ok (.goto 5, 3) := by decide +kernel
theorem dX7_drawn_82 : decode cX7_drawn 82 = .ok (.iload 4, 2) := by decide +kernel
theorem dX7_drawn_84 : decode cX7_drawn 84 = .ok (.ireturn, 1) := by decide +kernel
def rmX7_drawn : Room := { frames := 4, cells := 0, slots := 0, locals := 92 }
def wX7_drawn (M : zM) (o0 : Nat) (x1 : Int32) (x2 : Int32) (x3 : Int32) (Q : Int32 → zM → Prop) : Prop :=
    wX2_isThere M (o0 + 20) (fun r6 =>
    ((¬ r6 = 0) → (
    wX7_isWithin M x1 (0 : Int32) (60 : Int32) (fun r7 =>
    ((r7 = 0) → (
    Q (-1000001 : Int32) M)) ∧
    ((¬ r7 = 0) → (
    wX7_isWithin M x2 (1 : Int32) (999999 : Int32) (fun r8 =>
    ((r8 = 0) → (
    Q (-1000001 : Int32) M)) ∧
    ((¬ r8 = 0) → (
    wX7_isWithin M x3 (0 : Int32) (1 : Int32) (fun r9 =>
    ((¬ r9 = 0) → (
    wX2_become M (o0 + 25) (o0 + 20) (fun M10 =>
    wX2_passYears M10 (o0 + 25) x1 x2 (fun r11 M12 =>
    ((¬ x3 = 0) → (
    Q r11 M12)) ∧
    ((x3 = 0) → (
    wX2_worst M12 (o0 + 25) (fun r13 =>
    Q r13 M12))))))) ∧
    ((r9 = 0) → (
    Q (-1000001 : Int32) M))))))))))) ∧
    ((r6 = 0) → (
    Q (-1000002 : Int32) M)))
set_option maxHeartbeats 4000000 in
set_option maxRecDepth 100000 in
theorem kX7_drawn {l : Launch} {D : va_G} {Y : zY} {ad kd : Nat → Nat} {RL : List Nat} {M : zM} {J : zL} {o0 : Nat} {x1 : Int32} {x2 : Int32} {x3 : Int32} (h_o0 : kd o0 = 7) {Q : Int32 → zM → Prop} (hq : wX7_drawn M o0 x1 x2 x3 Q) : zCi l yX7_drawn wsX7_drawn rmX7_drawn [.ref (ad o0), .int x1, .int x2, .int x3] D Y ad kd RL M J (fun r M' J' => Q r M' ∧ J = J') := by
  refine z_meti (cc := cX7_drawn) (maxL := 5) (ret := (some .int)) (by decide) rfl (Nat.le_of_ble_eq_true rfl) ?_
  intro p e s m below meth c ls A ar QE hQE hx hb hr hml hown hts hlk hw hl
  have hown : s.vm.findClass RX7 = some m.cls := hown
  have hl : lv_has ls 5 [(0, .ref (ad o0)), (1, .int x1), (2, .int x2), (3, .int x3)] := hl
  have hC := hw.2.2.2.2.2.1
  have g7 : ∀ w ∈ wsX70, w.before ar s = true := (fun w h => hts w (List.mem_cons_of_mem _ (List.mem_append_left _ (List.mem_append_right _ h))))
  have q1 := hts _ (List.mem_of_getElem? (i := 1) rfl)
  have q2 := hts _ (List.mem_of_getElem? (i := 2) rfl)
  have q3 := hts _ (List.mem_of_getElem? (i := 3) rfl)
  have q4 := hts _ (List.mem_of_getElem? (i := 4) rfl)
  have q5 := hts _ (List.mem_of_getElem? (i := 5) rfl)
  unfold wX7_drawn at hq
  refine lv_aload_n hx hb dX7_drawn_0 rfl (lv_at hl 0 rfl) ?_
  refine zg7_rail hx hb g7 hown hw h_o0 q1 dX7_drawn_1 ?_
  refine z_cvi ⟨hx, hb, hml, hown, hts⟩ hw (zk_7_20 hC h_o0) (kX2_isThere (zk_7_20 hC h_o0) hq) (by decide) rfl (cwV 0 hts gX7_drawn_X2_isThere rfl rfl rfl (by decide +kernel) ⟨Nat.le_of_ble_eq_true rfl, Nat.le_of_ble_eq_true rfl⟩) rfl hl.1 rfl (Nat.le_of_ble_eq_true rfl) dX7_drawn_4 ⟨Nat.zero_le _, Nat.zero_le _⟩ (fun r6 M0 J0 H locs hq hw => ?_)
  obtain ⟨hq, rfl, rfl⟩ := hq
  refine lv_if_ne (tgt := 13) hx hb dX7_drawn_7 (by decide) (fun hc => ?_) (fun hc => ?_)
  · have hq := hq.1 hc
    refine lv_iload_n hx hb dX7_drawn_13 rfl (lv_at hl 1 rfl) ?_
    refine lv_iconst (v := (0 : Int32)) hx hb dX7_drawn_14 (by decide) ?_
    refine lv_bipush (v := (60 : Int32)) hx hb dX7_drawn_15 (by decide) ?_
    refine z_csi ⟨hx, hb, hml, hown, hts⟩ hw (kX7_isWithin  hq) (va_cwS 3 hts gX7_drawn_X7_isWithin rfl rfl rfl (by decide +kernel) ⟨Nat.le_of_ble_eq_true rfl, Nat.le_of_ble_eq_true rfl⟩) rfl hl.1 rfl (Nat.le_of_ble_eq_true rfl) dX7_drawn_17 ⟨Nat.zero_le _, Nat.zero_le _⟩ (fun r7 M0 J0 H locs hq hw => ?_)
    obtain ⟨hq, rfl, rfl⟩ := hq
    refine lv_if_eq (tgt := 43) hx hb dX7_drawn_20 (by decide) (fun hc => ?_) (fun hc => ?_)
    · have hq := hq.1 hc
      refine lv_ldc (v := (-1000001 : Int32)) hx hb hown q4 dX7_drawn_43 ?_
      exact z_iret hQE hx hb hr hlk hw dX7_drawn_45 ⟨hq, rfl⟩
    · have hq := hq.2 hc
      refine lv_iload_n hx hb dX7_drawn_23 rfl (lv_at hl 2 rfl) ?_
      refine lv_iconst (v := (1 : Int32)) hx hb dX7_drawn_24 (by decide) ?_
      refine lv_ldcw (v := (999999 : Int32)) hx hb hown q3 dX7_drawn_25 ?_
      refine z_csi ⟨hx, hb, hml, hown, hts⟩ hw (kX7_isWithin  hq) (va_cwS 3 hts gX7_drawn_X7_isWithin rfl rfl rfl (by decide +kernel) ⟨Nat.le_of_ble_eq_true rfl, Nat.le_of_ble_eq_true rfl⟩) rfl hl.1 rfl (Nat.le_of_ble_eq_true rfl) dX7_drawn_28 ⟨Nat.zero_le _, Nat.zero_le _⟩ (fun r8 M0 J0 H locs hq hw => ?_)
      obtain ⟨hq, rfl, rfl⟩ := hq
      refine lv_if_eq (tgt := 43) hx hb dX7_drawn_31 (by decide) (fun hc => ?_) (fun hc => ?_)
      · have hq := hq.1 hc
        refine lv_ldc (v := (-1000001 : Int32)) hx hb hown q4 dX7_drawn_43 ?_
        exact z_iret hQE hx hb hr hlk hw dX7_drawn_45 ⟨hq, rfl⟩
      · have hq := hq.2 hc
        refine lv_iload_n hx hb dX7_drawn_34 rfl (lv_at hl 3 rfl) ?_
        refine lv_iconst (v := (0 : Int32)) hx hb dX7_drawn_35 (by decide) ?_
        refine lv_iconst (v := (1 : Int32)) hx hb dX7_drawn_36 (by decide) ?_
        refine z_csi ⟨hx, hb, hml, hown, hts⟩ hw (kX7_isWithin  hq) (va_cwS 3 hts gX7_drawn_X7_isWithin rfl rfl rfl (by decide +kernel) ⟨Nat.le_of_ble_eq_true rfl, Nat.le_of_ble_eq_true rfl⟩) rfl hl.1 rfl (Nat.le_of_ble_eq_true rfl) dX7_drawn_37 ⟨Nat.zero_le _, Nat.zero_le _⟩ (fun r9 M0 J0 H locs hq hw => ?_)
        obtain ⟨hq, rfl, rfl⟩ := hq
        refine lv_if_ne (tgt := 46) hx hb dX7_drawn_40 (by decide) (fun hc => ?_) (fun hc => ?_)
        · have hq := hq.1 hc
          refine lv_aload_n hx hb dX7_drawn_46 rfl (lv_at hl 0 rfl) ?_
          refine zg7_draft hx hb g7 hown hw h_o0 q5 dX7_drawn_47 ?_
          refine lv_aload_n hx hb dX7_drawn_50 rfl (lv_at hl 0 rfl) ?_
          refine zg7_rail hx hb g7 hown hw h_o0 q1 dX7_drawn_51 ?_
          refine z_cvv ⟨hx, hb, hml, hown, hts⟩ hw (zk_7_25 hC h_o0) (kX2_become (zk_7_25 hC h_o0) (zk_7_20 hC h_o0) hq) (by decide) rfl (cwV 1 hts gX7_drawn_X2_become rfl rfl rfl (by decide +kernel) ⟨Nat.le_of_ble_eq_true rfl, Nat.le_of_ble_eq_true rfl⟩) rfl hl.1 rfl (Nat.le_of_ble_eq_true rfl) dX7_drawn_54 ⟨Nat.zero_le _, Nat.zero_le _⟩ (fun M10 J0 H locs hq hw => ?_)
          obtain ⟨hq, rfl⟩ := hq
          refine lv_aload_n hx hb dX7_drawn_57 rfl (lv_at hl 0 rfl) ?_
          refine zg7_draft hx hb g7 hown hw h_o0 q5 dX7_drawn_58 ?_
          refine lv_iload_n hx hb dX7_drawn_61 rfl (lv_at hl 1 rfl) ?_
          refine lv_iload_n hx hb dX7_drawn_62 rfl (lv_at hl 2 rfl) ?_
          refine z_cvi ⟨hx, hb, hml, hown, hts⟩ hw (zk_7_25 hC h_o0) (kX2_passYears (zk_7_25 hC h_o0) hq) (by decide) rfl (cwV 2 hts gX7_drawn_X2_passYears rfl rfl rfl (by decide +kernel) ⟨Nat.le_of_ble_eq_true rfl, Nat.le_of_ble_eq_true rfl⟩) rfl hl.1 rfl (Nat.le_of_ble_eq_true rfl) dX7_drawn_63 ⟨Nat.zero_le _, Nat.zero_le _⟩ (fun r11 M12 J0 H locs hq hw => ?_)
          obtain ⟨hq, rfl⟩ := hq
          refine lv_istore (lv' := [(4, .int r11), (0, .ref (ad o0)), (1, .int x1), (2, .int x2), (3, .int x3)]) hx hb dX7_drawn_66 hl (by decide) rfl (fun ls hl => ?_)
          refine lv_iload_n hx hb dX7_drawn_68 rfl (lv_at hl 4 rfl) ?_
          refine lv_if_ne (tgt := 82) hx hb dX7_drawn_69 (by decide) (fun hc => ?_) (fun hc => ?_)
          · have hq := hq.1 hc
            refine lv_iload hx hb dX7_drawn_82 (lv_at hl 0 rfl) ?_
            exact z_iret hQE hx hb hr hlk hw dX7_drawn_84 ⟨hq, rfl⟩
          · have hq := hq.2 hc
            refine lv_aload_n hx hb dX7_drawn_72 rfl (lv_at hl 1 rfl) ?_
            refine zg7_draft hx hb g7 hown hw h_o0 q5 dX7_drawn_73 ?_
            refine z_cvi ⟨hx, hb, hml, hown, hts⟩ hw (zk_7_25 hC h_o0) (kX2_worst (zk_7_25 hC h_o0) hq) (by decide) rfl (cwV 0 hts gX7_drawn_X2_worst rfl rfl rfl (by decide +kernel) ⟨Nat.le_of_ble_eq_true rfl, Nat.le_of_ble_eq_true rfl⟩) rfl hl.1 rfl (Nat.le_of_ble_eq_true rfl) dX7_drawn_76 ⟨Nat.zero_le _, Nat.zero_le _⟩ (fun r13 M0 J0 H locs hq hw => ?_)
            obtain ⟨hq, rfl, rfl⟩ := hq
            refine lv_goto (tgt := 84) hx hb dX7_drawn_79 (by decide) ?_
            exact z_iret hQE hx hb hr hlk hw dX7_drawn_84 ⟨hq, rfl⟩
        · have hq := hq.2 hc
          refine lv_ldc (v := (-1000001 : Int32)) hx hb hown q4 dX7_drawn_43 ?_
          exact z_iret hQE hx hb hr hlk hw dX7_drawn_45 ⟨hq, rfl⟩
  · have hq := hq.2 hc
    refine lv_ldc (v := (-1000002 : Int32)) hx hb hown q2 dX7_drawn_10 ?_
    exact z_iret hQE hx hb hr hlk hw dX7_drawn_12 ⟨hq, rfl⟩
set_option maxRecDepth 20000 in
theorem ggX7_image_X7_isWithin : GoodIn wsX7_image wsX7_isWithin := goodIn_r _ [8] (by decide +kernel) (by decide +kernel)
set_option maxRecDepth 20000 in
theorem gX7_image_X7_isWithin : GoodIn wsX7_image (va_wsS RX7 70 yX7_isWithin wsX7_isWithin) := goodIn_app (goodIn_of _ (by decide +kernel)) ggX7_image_X7_isWithin
set_option maxRecDepth 20000 in
theorem ggX7_image_X2_isThere : GoodIn wsX7_image wsX2_isThere := goodIn_r _ [13, 14, 38, 39, 40, 41, 42, 43] (by decide +kernel) (by decide +kernel)
set_option maxRecDepth 20000 in
theorem gX7_image_X2_isThere : GoodIn wsX7_image (wsV RX7 164 RX2 yX2_isThere wsX2_isThere) := goodIn_app (goodIn_of _ (by decide +kernel)) ggX7_image_X2_isThere
set_option maxRecDepth 20000 in
theorem ggX7_image_X2_become : GoodIn wsX7_image wsX2_become := goodIn_r _ [18, 14, 19, 20, 21, 22, 23, 24, 25, 26, 27, 38, 39, 40, 41, 42, 43] (by decide +kernel) (by decide +kernel)
set_option maxRecDepth 20000 in
theorem gX7_image_X2_become : GoodIn wsX7_image (wsV RX7 133 RX2 yX2_become wsX2_become) := goodIn_app (goodIn_of _ (by decide +kernel)) ggX7_image_X2_become
theorem dX7_image_0 : decode cX7_image 0 = .ok (.iload_n 1, 1) := by decide +kernel
theorem dX7_image_1 : decode cX7_image 1 = .ok (.iconst 0, 1) := by decide +kernel
theorem dX7_image_2 : decode cX7_image 2 = .ok (.iconst 1, 1) := by decide +kernel
theorem dX7_image_3 : decode cX7_image 3 = .ok (.invokestatic 70, 3) := by decide +kernel
theorem dX7_image_6 : decode cX7_image 6 = .ok (.ifCond .ne 6, 3) := by decide +kernel
theorem dX7_image_9 : decode cX7_image 9 = .ok (.ldc 74, 2) := by decide +kernel
theorem dX7_image_11 : decode cX7_image 11 = .ok (.ireturn, 1) := by decide +kernel
theorem dX7_image_12 : decode cX7_image 12 = .ok (.aload_n 0, 1) := by decide +kernel
theorem dX7_image_13 : decode cX7_image 13 = .ok (.getfield 25, 3) := by decide +kernel
theorem dX7_image_16 : decode cX7_image 16 = .ok (.invokevirtual 164, 3) := by decide +kernel
theorem dX7_image_19 : decode cX7_image 19 = .ok (.ifCond .ne 6, 3) := by decide +kernel
theorem dX7_image_22 : decode cX7_image 22 = .ok (.ldc 157, 2) := by decide +kernel
theorem dX7_image_24 : decode cX7_image 24 = .ok (.ireturn, 1) := by decide +kernel
theorem dX7_image_25 : decode cX7_image 25 = .ok (.aload_n 0, 1) := by decide +kernel
theorem dX7_image_26 : decode cX7_image 26 = .ok (.getfield 32, 3) := by decide +kernel
theorem dX7_image_29 : decode cX7_image 29 = .ok (.iload_n 1, 1) := by decide +kernel
theorem dX7_image_30 : decode cX7_image 30 = .ok (.aaload, 1) := by decide +kernel
theorem dX7_image_31 : decode cX7_image 31 = .ok (.aload_n 0, 1) := by decide +kernel
theorem dX7_image_32 : decode cX7_image 32 = .ok (.getfield 25, 3) := by decide +kernel
theorem dX7_image_35 : decode cX7_image 35 = .ok (.invokevirtual 133, 3) := by decide +kernel
theorem dX7_image_38 : decode cX7_image 38 = .ok (.iconst 1, 1) := by decide +kernel
theorem dX7_image_39 : decode cX7_image 39 = .ok (.ireturn, 1) := by decide +kernel
def rmX7_image : Room := { frames := 2, cells := 0, slots := 0, locals := 85 }
def wX7_image (M : zM) (o0 : Nat) (x1 : Int32) (Q : Int32 → zM → Prop) : Prop :=
    wX7_isWithin M x1 (0 : Int32) (1 : Int32) (fun r4 =>
    ((¬ r4 = 0) → (
    wX2_isThere M (o0 + 20) (fun r5 =>
    ((¬ r5 = 0) → (
    vp_in x1 2 ∧
    wX2_become M ((o0 + 30) + 1 + 5 * x1.toNatClampNeg) (o0 + 20) (fun M7 =>
    Q (1 : Int32) M7))) ∧
    ((r5 = 0) → (
    Q (-1000002 : Int32) M))))) ∧
    ((r4 = 0) → (
    Q (-1000001 : Int32) M)))
set_option maxHeartbeats 4000000 in
set_option maxRecDepth 100000 in
theorem kX7_image {l : Launch} {D : va_G} {Y : zY} {ad kd : Nat → Nat} {RL : List Nat} {M : zM} {J : zL} {o0 : Nat} {x1 : Int32} (h_o0 : kd o0 = 7) {Q : Int32 → zM → Prop} (hq : wX7_image M o0 x1 Q) : zCi l yX7_image wsX7_image rmX7_image [.ref (ad o0), .int x1] D Y ad kd RL M J (fun r M' J' => Q r M' ∧ J = J') := by
  refine z_meti (cc := cX7_image) (maxL := 2) (ret := (some .int)) (by decide) rfl (Nat.le_of_ble_eq_true rfl) ?_
  intro p e s m below meth c ls A ar QE hQE hx hb hr hml hown hts hlk hw hl
  have hown : s.vm.findClass RX7 = some m.cls := hown
  have hl : lv_has ls 2 [(0, .ref (ad o0)), (1, .int x1)] := hl
  have hC := hw.2.2.2.2.2.1
  have g7 : ∀ w ∈ wsX70, w.before ar s = true := (fun w h => hts w (List.mem_cons_of_mem _ (List.mem_append_left _ (List.mem_append_right _ h))))
  have q1 := hts _ (List.mem_of_getElem? (i := 1) rfl)
  have q2 := hts _ (List.mem_of_getElem? (i := 2) rfl)
  have q3 := hts _ (List.mem_of_getElem? (i := 3) rfl)
  have q4 := hts _ (List.mem_of_getElem? (i := 4) rfl)
  unfold wX7_image at hq
  refine lv_iload_n hx hb dX7_image_0 rfl (lv_at hl 1 rfl) ?_
  refine lv_iconst (v := (0 : Int32)) hx hb dX7_image_1 (by decide) ?_
  refine lv_iconst (v := (1 : Int32)) hx hb dX7_image_2 (by decide) ?_
  refine z_csi ⟨hx, hb, hml, hown, hts⟩ hw (kX7_isWithin  hq) (va_cwS 3 hts gX7_image_X7_isWithin rfl rfl rfl (by decide +kernel) ⟨Nat.le_of_ble_eq_true rfl, Nat.le_of_ble_eq_true rfl⟩) rfl hl.1 rfl (Nat.le_of_ble_eq_true rfl) dX7_image_3 ⟨Nat.zero_le _, Nat.zero_le _⟩ (fun r4 M0 J0 H locs hq hw => ?_)
  obtain ⟨hq, rfl, rfl⟩ := hq
  refine lv_if_ne (tgt := 12) hx hb dX7_image_6 (by decide) (fun hc => ?_) (fun hc => ?_)
  · have hq := hq.1 hc
    refine lv_aload_n hx hb dX7_image_12 rfl (lv_at hl 0 rfl) ?_
    refine zg7_rail hx hb g7 hown hw h_o0 q2 dX7_image_13 ?_
    refine z_cvi ⟨hx, hb, hml, hown, hts⟩ hw (zk_7_20 hC h_o0) (kX2_isThere (zk_7_20 hC h_o0) hq) (by decide) rfl (cwV 0 hts gX7_image_X2_isThere rfl rfl rfl (by decide +kernel) ⟨Nat.le_of_ble_eq_true rfl, Nat.le_of_ble_eq_true rfl⟩) rfl hl.1 rfl (Nat.le_of_ble_eq_true rfl) dX7_image_16 ⟨Nat.zero_le _, Nat.zero_le _⟩ (fun r5 M0 J0 H locs hq hw => ?_)
    obtain ⟨hq, rfl, rfl⟩ := hq
    refine lv_if_ne (tgt := 25) hx hb dX7_image_19 (by decide) (fun hc => ?_) (fun hc => ?_)
    · have hq := hq.1 hc
      refine lv_aload_n hx hb dX7_image_25 rfl (lv_at hl 0 rfl) ?_
      refine zg7_images hx hb g7 hown hw h_o0 q4 dX7_image_26 ?_
      refine lv_iload_n hx hb dX7_image_29 rfl (lv_at hl 1 rfl) ?_
      obtain ⟨hi, hq⟩ := hq
      have hk6 := zk_12 hC (zk_7_30 hC h_o0) (z_lt hi)
      refine z_ald12 hx hb hw (zk_7_30 hC h_o0) hi dX7_image_30 ?_
      refine lv_aload_n hx hb dX7_image_31 rfl (lv_at hl 0 rfl) ?_
      refine zg7_rail hx hb g7 hown hw h_o0 q2 dX7_image_32 ?_
      refine z_cvv ⟨hx, hb, hml, hown, hts⟩ hw hk6 (kX2_become hk6 (zk_7_20 hC h_o0) hq) (by decide) rfl (cwV 1 hts gX7_image_X2_become rfl rfl rfl (by decide +kernel) ⟨Nat.le_of_ble_eq_true rfl, Nat.le_of_ble_eq_true rfl⟩) rfl hl.1 rfl (Nat.le_of_ble_eq_true rfl) dX7_image_35 ⟨Nat.zero_le _, Nat.zero_le _⟩ (fun M7 J0 H locs hq hw => ?_)
      obtain ⟨hq, rfl⟩ := hq
      refine lv_iconst (v := (1 : Int32)) hx hb dX7_image_38 (by decide) ?_
      exact z_iret hQE hx hb hr hlk hw dX7_image_39 ⟨hq, rfl⟩
    · have hq := hq.2 hc
      refine lv_ldc (v := (-1000002 : Int32)) hx hb hown q3 dX7_image_22 ?_
      exact z_iret hQE hx hb hr hlk hw dX7_image_24 ⟨hq, rfl⟩
  · have hq := hq.2 hc
    refine lv_ldc (v := (-1000001 : Int32)) hx hb hown q1 dX7_image_9 ?_
    exact z_iret hQE hx hb hr hlk hw dX7_image_11 ⟨hq, rfl⟩
set_option maxRecDepth 20000 in
theorem ggX7_restore_X7_isWithin : GoodIn wsX7_restore wsX7_isWithin := goodIn_r _ [9] (by decide +kernel) (by decide +kernel)
set_option maxRecDepth 20000 in
theorem gX7_restore_X7_isWithin : GoodIn wsX7_restore (va_wsS RX7 70 yX7_isWithin wsX7_isWithin) := goodIn_app (goodIn_of _ (by decide +kernel)) ggX7_restore_X7_isWithin
set_option maxRecDepth 20000 in
theorem ggX7_restore_X2_isThere : GoodIn wsX7_restore wsX2_isThere := goodIn_r _ [14, 15, 45, 46, 47, 48, 49, 50] (by decide +kernel) (by decide +kernel)
set_option maxRecDepth 20000 in
theorem gX7_restore_X2_isThere : GoodIn wsX7_restore (wsV RX7 164 RX2 yX2_isThere wsX2_isThere) := goodIn_app (goodIn_of _ (by decide +kernel)) ggX7_restore_X2_isThere
set_option maxRecDepth 20000 in
theorem ggX7_restore_X2_become : GoodIn wsX7_restore wsX2_become := goodIn_r _ [19, 15, 20, 21, 22, 23, 24, 25, 26, 27, 28, 45, 46, 47, 48, 49, 50] (by decide +kernel) (by decide +kernel)
set_option maxRecDepth 20000 in
theorem gX7_restore_X2_become : GoodIn wsX7_restore (wsV RX7 133 RX2 yX2_become wsX2_become) := goodIn_app (goodIn_of _ (by decide +kernel)) ggX7_restore_X2_become
set_option maxRecDepth 20000 in
theorem ggX7_restore_X1_forget : GoodIn wsX7_restore wsX1_forget := goodIn_r _ [33, 34, 51, 52, 53] (by decide +kernel) (by decide +kernel)
set_option maxRecDepth 20000 in
theorem gX7_restore_X1_forget : GoodIn wsX7_restore (wsV RX7 137 RX1 yX1_forget wsX1_forget) := goodIn_app (goodIn_of _ (by decide +kernel)) ggX7_restore_X1_forget
theorem dX7_restore_0 : decode cX7_restore 0 = .ok (.iload_n 1, 1) := by decide +kernel
theorem dX7_restore_1 : decode cX7_restore 1 = .ok (.iconst 0, 1) := by decide +kernel
theorem dX7_restore_2 : decode cX7_restore 2 = .ok (.iconst 1, 1) := by decide +kernel
theorem dX7_restore_3 : decode cX7_restore 3 = .ok (.invokestatic 70, 3) := by decide +kernel
theorem dX7_restore_6 : decode cX7_restore 6 = .ok (.ifCond .ne 6, 3) := by decide +kernel
theorem dX7_restore_9 : decode cX7_restore 9 = .ok (.ldc 74, 2) := by decide +kernel
theorem dX7_restore_11 : decode cX7_restore 11 = .ok (.ireturn, 1) := by decide +kernel
theorem dX7_restore_12 : decode cX7_restore 12 = .ok (.aload_n 0, 1) := by decide +kernel
theorem dX7_restore_13 : decode cX7_restore 13 = .ok (.getfield 32, 3) := by decide +kernel
theorem dX7_restore_16 : decode cX7_restore 16 = .ok (.iload_n 1, 1) := by decide +kernel
theorem dX7_restore_17 : decode cX7_restore 17 = .ok (.aaload, 1) := by decide +kernel
theorem dX7_restore_18 : decode cX7_restore 18 = .ok (.invokevirtual 164, 3) := by decide +kernel
theorem dX7_restore_21 : decode cX7_restore 21 = .ok (.ifCond .ne 6, 3) := by decide +kernel
theorem dX7_restore_24 : decode cX7_restore 24 = .ok (.ldc 157, 2) := by decide +kernel
theorem dX7_restore_26 : decode cX7_restore 26 = .ok (.ireturn, 1) := by decide +kernel
theorem dX7_restore_27 : decode cX7_restore 27 = .ok (.aload_n 0, 1) := by decide +kernel
theorem dX7_restore_28 : decode cX7_restore 28 = .ok (.getfield 25, 3) := by decide +kernel
theorem dX7_restore_31 : decode cX7_restore 31 = .ok (.aload_n 0, 1) := by decide +kernel
theorem dX7_restore_32 : decode cX7_restore 32 = .ok (.getfield 32, 3) := by decide +kernel
theorem dX7_restore_35 : decode cX7_restore 35 = .ok (.iload_n 1, 1) := by decide +kernel
theorem dX7_restore_36 : decode cX7_restore 36 = .ok (.aaload, 1) := by decide +kernel
theorem dX7_restore_37 : decode cX7_restore 37 = .ok (.invokevirtual 133, 3) := by decide +kernel
theorem dX7_restore_40 : decode cX7_restore 40 = .ok (.aload_n 0, 1) := by decide +kernel
theorem dX7_restore_41 : decode cX7_restore 41 = .ok (.getfield 39, 3) := by decide +kernel
theorem dX7_restore_44 : decode cX7_restore 44 = .ok (.invokevirtual 137, 3) := by decide +kernel
theorem dX7_restore_47 : decode cX7_restore 47 = .ok (.iconst 1, 1) := by decide +kernel
theorem dX7_restore_48 : decode cX7_restore 48 = .ok (.ireturn, 1) := by decide +kernel
def rmX7_restore : Room := { frames := 2, cells := 0, slots := 0, locals := 85 }
def wX7_restore (M : zM) (o0 : Nat) (x1 : Int32) (Q : Int32 → zM → Prop) : Prop :=
    wX7_isWithin M x1 (0 : Int32) (1 : Int32) (fun r4 =>
    ((¬ r4 = 0) → (
    vp_in x1 2 ∧
    wX2_isThere M ((o0 + 30) + 1 + 5 * x1.toNatClampNeg) (fun r6 =>
    ((¬ r6 = 0) → (
    vp_in x1 2 ∧
    wX2_become M (o0 + 20) ((o0 + 30) + 1 + 5 * x1.toNatClampNeg) (fun M8 =>
    wX1_forget M8 (o0 + 41) (fun M9 =>
    Q (1 : Int32) M9)))) ∧
    ((r6 = 0) → (
    Q (-1000002 : Int32) M))))) ∧
    ((r4 = 0) → (
    Q (-1000001 : Int32) M)))
set_option maxHeartbeats 4000000 in
set_option maxRecDepth 100000 in
theorem kX7_restore {l : Launch} {D : va_G} {Y : zY} {ad kd : Nat → Nat} {RL : List Nat} {M : zM} {J : zL} {o0 : Nat} {x1 : Int32} (h_o0 : kd o0 = 7) {Q : Int32 → zM → Prop} (hq : wX7_restore M o0 x1 Q) : zCi l yX7_restore wsX7_restore rmX7_restore [.ref (ad o0), .int x1] D Y ad kd RL M J (fun r M' J' => Q r M' ∧ J = J') := by
  refine z_meti (cc := cX7_restore) (maxL := 2) (ret := (some .int)) (by decide) rfl (Nat.le_of_ble_eq_true rfl) ?_
  intro p e s m below meth c ls A ar QE hQE hx hb hr hml hown hts hlk hw hl
  have hown : s.vm.findClass RX7 = some m.cls := hown
  have hl : lv_has ls 2 [(0, .ref (ad o0)), (1, .int x1)] := hl
  have hC := hw.2.2.2.2.2.1
  have g7 : ∀ w ∈ wsX70, w.before ar s = true := (fun w h => hts w (List.mem_cons_of_mem _ (List.mem_append_left _ (List.mem_append_left _ (List.mem_append_right _ h)))))
  have q1 := hts _ (List.mem_of_getElem? (i := 1) rfl)
  have q2 := hts _ (List.mem_of_getElem? (i := 2) rfl)
  have q3 := hts _ (List.mem_of_getElem? (i := 3) rfl)
  have q4 := hts _ (List.mem_of_getElem? (i := 4) rfl)
  have q5 := hts _ (List.mem_of_getElem? (i := 5) rfl)
  unfold wX7_restore at hq
  refine lv_iload_n hx hb dX7_restore_0 rfl (lv_at hl 1 rfl) ?_
  refine lv_iconst (v := (0 : Int32)) hx hb dX7_restore_1 (by decide) ?_
  refine lv_iconst (v := (1 : Int32)) hx hb dX7_restore_2 (by decide) ?_
  refine z_csi ⟨hx, hb, hml, hown, hts⟩ hw (kX7_isWithin  hq) (va_cwS 3 hts gX7_restore_X7_isWithin rfl rfl rfl (by decide +kernel) ⟨Nat.le_of_ble_eq_true rfl, Nat.le_of_ble_eq_true rfl⟩) rfl hl.1 rfl (Nat.le_of_ble_eq_true rfl) dX7_restore_3 ⟨Nat.zero_le _, Nat.zero_le _⟩ (fun r4 M0 J0 H locs hq hw => ?_)
  obtain ⟨hq, rfl, rfl⟩ := hq
  refine lv_if_ne (tgt := 12) hx hb dX7_restore_6 (by decide) (fun hc => ?_) (fun hc => ?_)
  · have hq := hq.1 hc
    refine lv_aload_n hx hb dX7_restore_12 rfl (lv_at hl 0 rfl) ?_
    refine zg7_images hx hb g7 hown hw h_o0 q2 dX7_restore_13 ?_
    refine lv_iload_n hx hb dX7_restore_16 rfl (lv_at hl 1 rfl) ?_
    obtain ⟨hi, hq⟩ := hq
    have hk5 := zk_12 hC (zk_7_30 hC h_o0) (z_lt hi)
    refine z_ald12 hx hb hw (zk_7_30 hC h_o0) hi dX7_restore_17 ?_
    refine z_cvi ⟨hx, hb, hml, hown, hts⟩ hw hk5 (kX2_isThere hk5 hq) (by decide) rfl (cwV 0 hts gX7_restore_X2_isThere rfl rfl rfl (by decide +kernel) ⟨Nat.le_of_ble_eq_true rfl, Nat.le_of_ble_eq_true rfl⟩) rfl hl.1 rfl (Nat.le_of_ble_eq_true rfl) dX7_restore_18 ⟨Nat.zero_le _, Nat.zero_le _⟩ (fun r6 M0 J0 H locs hq hw => ?_)
    obtain ⟨hq, rfl, rfl⟩ := hq
    refine lv_if_ne (tgt := 27) hx hb dX7_restore_21 (by decide) (fun hc => ?_) (fun hc => ?_)
    · have hq := hq.1 hc
      refine lv_aload_n hx hb dX7_restore_27 rfl (lv_at hl 0 rfl) ?_
      refine zg7_rail hx hb g7 hown hw h_o0 q4 dX7_restore_28 ?_
      refine lv_aload_n hx hb dX7_restore_31 rfl (lv_at hl 0 rfl) ?_
      refine zg7_images hx hb g7 hown hw h_o0 q2 dX7_restore_32 ?_
      refine lv_iload_n hx hb dX7_restore_35 rfl (lv_at hl 1 rfl) ?_
      obtain ⟨hi, hq⟩ := hq
      have hk7 := zk_12 hC (zk_7_30 hC h_o0) (z_lt hi)
      refine z_ald12 hx hb hw (zk_7_30 hC h_o0) hi dX7_restore_36 ?_
      refine z_cvv ⟨hx, hb, hml, hown, hts⟩ hw (zk_7_20 hC h_o0) (kX2_become (zk_7_20 hC h_o0) hk7 hq) (by decide) rfl (cwV 1 hts gX7_restore_X2_become rfl rfl rfl (by decide +kernel) ⟨Nat.le_of_ble_eq_true rfl, Nat.le_of_ble_eq_true rfl⟩) rfl hl.1 rfl (Nat.le_of_ble_eq_true rfl) dX7_restore_37 ⟨Nat.zero_le _, Nat.zero_le _⟩ (fun M8 J0 H locs hq hw => ?_)
      obtain ⟨hq, rfl⟩ := hq
      refine lv_aload_n hx hb dX7_restore_40 rfl (lv_at hl 0 rfl) ?_
      refine zg7_history hx hb g7 hown hw h_o0 q5 dX7_restore_41 ?_
      refine z_cvv ⟨hx, hb, hml, hown, hts⟩ hw (zk_7_41 hC h_o0) (kX1_forget (zk_7_41 hC h_o0) hq) (by decide) rfl (cwV 0 hts gX7_restore_X1_forget rfl rfl rfl (by decide +kernel) ⟨Nat.le_of_ble_eq_true rfl, Nat.le_of_ble_eq_true rfl⟩) rfl hl.1 rfl (Nat.le_of_ble_eq_true rfl) dX7_restore_44 ⟨Nat.zero_le _, Nat.zero_le _⟩ (fun M9 J0 H locs hq hw => ?_)
      obtain ⟨hq, rfl⟩ := hq
      refine lv_iconst (v := (1 : Int32)) hx hb dX7_restore_47 (by decide) ?_
      exact z_iret hQE hx hb hr hlk hw dX7_restore_48 ⟨hq, rfl⟩
    · have hq := hq.2 hc
      refine lv_ldc (v := (-1000002 : Int32)) hx hb hown q3 dX7_restore_24 ?_
      exact z_iret hQE hx hb hr hlk hw dX7_restore_26 ⟨hq, rfl⟩
  · have hq := hq.2 hc
    refine lv_ldc (v := (-1000001 : Int32)) hx hb hown q1 dX7_restore_9 ?_
    exact z_iret hQE hx hb hr hlk hw dX7_restore_11 ⟨hq, rfl⟩
set_option maxRecDepth 20000 in
theorem ggX7_kind_X7_isPeg : GoodIn wsX7_kind wsX7_isPeg := goodIn_r _ [8, 1, 9, 10, 11, 7, 12, 13, 14, 15, 16, 17, 18, 19, 20, 21, 22, 23, 24, 25, 26, 27, 28] (by decide +kernel) (by decide +kernel)
set_option maxRecDepth 20000 in
theorem gX7_kind_X7_isPeg : GoodIn wsX7_kind (wsV RX7 146 RX7 yX7_isPeg wsX7_isPeg) := goodIn_app (goodIn_of _ (by decide +kernel)) ggX7_kind_X7_isPeg
theorem dX7_kind_0 : decode cX7_kind 0 = .ok (.aload_n 0, 1) := by decide +kernel
theorem dX7_kind_1 : decode cX7_kind 1 = .ok (.iload_n 1, 1) := by decide +kernel
theorem dX7_kind_2 : decode cX7_kind 2 = .ok (.invokevirtual 146, 3) := by decide +kernel
theorem dX7_kind_5 : decode cX7_kind 5 = .ok (.ifCond .eq 15, 3) := by decide +kernel
theorem dX7_kind_8 : decode cX7_kind 8 = .ok (.aload_n 0, 1) := by decide +kernel
theorem dX7_kind_9 : decode cX7_kind 9 = .ok (.getfield 25, 3) := by decide +kernel
theorem dX7_kind_12 : decode cX7_kind 12 = .ok (.getfield 282, 3) := by decide +kernel
theorem dX7_kind_15 : decode cX7_kind 15 = .ok (.iload_n 1, 1) := by decide +kernel
theorem dX7_kind_16 : decode cX7_kind 16 = .ok (.iaload, 1) := by decide +kernel
theorem dX7_kind_17 : decode cX7_kind 17 = .ok (.goto 5, 3) := by decide +kernel
theorem dX7_kind_20 : decode cX7_kind 20 = .ok (.ldc 74, 2) := by decide +kernel
theorem dX7_kind_22 : decode cX7_kind 22 = .ok (.ireturn, 1) := by decide +kernel
def rmX7_kind : Room := { frames := 2, cells := 0, slots := 0, locals := 43 }
def wX7_kind (M : zM) (o0 : Nat) (x1 : Int32) (Q : Int32 → Prop) : Prop :=
    wX7_isPeg M o0 x1 (fun r4 =>
    ((r4 = 0) → (
    Q (-1000001 : Int32))) ∧
    ((¬ r4 = 0) → (
    vp_in x1 12 ∧
    Q (M ((o0 + 20) + 1) x1.toNatClampNeg))))
set_option maxHeartbeats 4000000 in
set_option maxRecDepth 100000 in
theorem kX7_kind {l : Launch} {D : va_G} {Y : zY} {ad kd : Nat → Nat} {RL : List Nat} {M : zM} {J : zL} {o0 : Nat} {x1 : Int32} (h_o0 : kd o0 = 7) {Q : Int32 → Prop} (hq : wX7_kind M o0 x1 Q) : zCi l yX7_kind wsX7_kind rmX7_kind [.ref (ad o0), .int x1] D Y ad kd RL M J (fun r M' J' => Q r ∧ M = M' ∧ J = J') := by
  refine z_meti (cc := cX7_kind) (maxL := 2) (ret := (some .int)) (by decide) rfl (Nat.le_of_ble_eq_true rfl) ?_
  intro p e s m below meth c ls A ar QE hQE hx hb hr hml hown hts hlk hw hl
  have hown : s.vm.findClass RX7 = some m.cls := hown
  have hl : lv_has ls 2 [(0, .ref (ad o0)), (1, .int x1)] := hl
  have hC := hw.2.2.2.2.2.1
  have g2 : ∀ w ∈ wsX20, w.before ar s = true := (fun w h => hts w (List.mem_cons_of_mem _ (List.mem_append_right _ h)))
  have g7 : ∀ w ∈ wsX70, w.before ar s = true := (fun w h => hts w (List.mem_cons_of_mem _ (List.mem_append_left _ (List.mem_append_right _ h))))
  have q1 := hts _ (List.mem_of_getElem? (i := 1) rfl)
  have q2 := hts _ (List.mem_of_getElem? (i := 2) rfl)
  have q3 := hts _ (List.mem_of_getElem? (i := 3) rfl)
  unfold wX7_kind at hq
  refine lv_aload_n hx hb dX7_kind_0 rfl (lv_at hl 0 rfl) ?_
  refine lv_iload_n hx hb dX7_kind_1 rfl (lv_at hl 1 rfl) ?_
  refine z_cvi ⟨hx, hb, hml, hown, hts⟩ hw h_o0 (kX7_isPeg h_o0 hq) (by decide) rfl (cwV 1 hts gX7_kind_X7_isPeg rfl rfl rfl (by decide +kernel) ⟨Nat.le_of_ble_eq_true rfl, Nat.le_of_ble_eq_true rfl⟩) rfl hl.1 rfl (Nat.le_of_ble_eq_true rfl) dX7_kind_2 ⟨Nat.zero_le _, Nat.zero_le _⟩ (fun r4 M0 J0 H locs hq hw => ?_)
  obtain ⟨hq, rfl, rfl⟩ := hq
  refine lv_if_eq (tgt := 20) hx hb dX7_kind_5 (by decide) (fun hc => ?_) (fun hc => ?_)
  · have hq := hq.1 hc
    refine lv_ldc (v := (-1000001 : Int32)) hx hb hown q3 dX7_kind_20 ?_
    exact z_iret hQE hx hb hr hlk hw dX7_kind_22 ⟨hq, rfl, rfl⟩
  · have hq := hq.2 hc
    refine lv_aload_n hx hb dX7_kind_8 rfl (lv_at hl 0 rfl) ?_
    refine zg7_rail hx hb g7 hown hw h_o0 q1 dX7_kind_9 ?_
    refine zg2_kinds hx hb g2 hown hw (zk_7_20 hC h_o0) q2 dX7_kind_12 ?_
    refine lv_iload_n hx hb dX7_kind_15 rfl (lv_at hl 1 rfl) ?_
    obtain ⟨hi, hq⟩ := hq
    refine z_iald (n := 12) hx hb hw (zk_2_1 hC (zk_7_20 hC h_o0)) hi dX7_kind_16 ?_
    refine lv_goto (tgt := 22) hx hb dX7_kind_17 (by decide) ?_
    exact z_iret hQE hx hb hr hlk hw dX7_kind_22 ⟨hq, rfl, rfl⟩
set_option maxRecDepth 20000 in
theorem ggX7_as_X7_isPeg : GoodIn wsX7_as wsX7_isPeg := goodIn_r _ [9, 2, 10, 11, 12, 8, 13, 24, 25, 26, 27, 28, 29, 30, 31, 32, 33, 34, 35, 36, 37, 38, 39] (by decide +kernel) (by decide +kernel)
set_option maxRecDepth 20000 in
theorem gX7_as_X7_isPeg : GoodIn wsX7_as (wsV RX7 146 RX7 yX7_isPeg wsX7_isPeg) := goodIn_app (goodIn_of _ (by decide +kernel)) ggX7_as_X7_isPeg
set_option maxRecDepth 20000 in
theorem ggX7_as_X7_isWithin : GoodIn wsX7_as wsX7_isWithin := goodIn_r _ [13] (by decide +kernel) (by decide +kernel)
set_option maxRecDepth 20000 in
theorem gX7_as_X7_isWithin : GoodIn wsX7_as (va_wsS RX7 70 yX7_isWithin wsX7_isWithin) := goodIn_app (goodIn_of _ (by decide +kernel)) ggX7_as_X7_isWithin
set_option maxRecDepth 20000 in
theorem ggX7_as_X7_fine : GoodIn wsX7_as wsX7_fine := goodIn_r _ [17, 18, 24, 25, 26, 27, 28, 29, 30, 31, 32, 33] (by decide +kernel) (by decide +kernel)
set_option maxRecDepth 20000 in
theorem gX7_as_X7_fine : GoodIn wsX7_as (wsV RX7 83 RX7 yX7_fine wsX7_fine) := goodIn_app (goodIn_of _ (by decide +kernel)) ggX7_as_X7_fine
set_option maxRecDepth 20000 in
theorem ggX7_as_X7_found : GoodIn wsX7_as wsX7_found := goodIn_r _ [22, 18, 23, 24, 25, 26, 27, 28, 29, 30, 31, 32, 33] (by decide +kernel) (by decide +kernel)
set_option maxRecDepth 20000 in
theorem gX7_as_X7_found : GoodIn wsX7_as (wsV RX7 75 RX7 yX7_found wsX7_found) := goodIn_app (goodIn_of _ (by decide +kernel)) ggX7_as_X7_found
theorem dX7_as_0 : decode cX7_as 0 = .ok (.aload_n 0, 1) := by decide +kernel
theorem dX7_as_1 : decode cX7_as 1 = .ok (.iload_n 1, 1) := by decide +kernel
theorem dX7_as_2 : decode cX7_as 2 = .ok (.invokevirtual 146, 3) := by decide +kernel
theorem dX7_as_5 : decode cX7_as 5 = .ok (.ifCond .eq 12, 3) := by decide +kernel
theorem dX7_as_8 : decode cX7_as 8 = .ok (.iload_n 2, 1) := by decide +kernel
theorem dX7_as_9 : decode cX7_as 9 = .ok (.iconst 0, 1) := by decide +kernel
theorem dX7_as_10 : decode cX7_as 10 = .ok (.iconst 5, 1) := by decide +kernel
theorem dX7_as_11 : decode cX7_as 11 = .ok (.invokestatic 70, 3) := by decide +kernel
theorem dX7_as_14 : decode cX7_as 14 = .ok (.ifCond .ne 6, 3) := by decide +kernel
theorem dX7_as_17 : decode cX7_as 17 = .ok (.ldc 74, 2) := by decide +kernel
theorem dX7_as_19 : decode cX7_as 19 = .ok (.ireturn, 1) := by decide +kernel
theorem dX7_as_20 : decode cX7_as 20 = .ok (.aload_n 0, 1) := by decide +kernel
theorem dX7_as_21 : decode cX7_as 21 = .ok (.getfield 25, 3) := by decide +kernel
theorem dX7_as_24 : decode cX7_as 24 = .ok (.getfield 282, 3) := by decide +kernel
theorem dX7_as_27 : decode cX7_as 27 = .ok (.iload_n 1, 1) := by decide +kernel
theorem dX7_as_28 : decode cX7_as 28 = .ok (.iaload, 1) := by decide +kernel
theorem dX7_as_29 : decode cX7_as 29 = .ok (.istore_n 3, 1) := by decide +kernel
theorem dX7_as_30 : decode cX7_as 30 = .ok (.iconst 0, 1) := by decide +kernel
theorem dX7_as_31 : decode cX7_as 31 = .ok (.istore 4, 2) := by decide +kernel
theorem dX7_as_33 : decode cX7_as 33 = .ok (.iload 4, 2) := by decide +kernel
theorem dX7_as_35 : decode cX7_as 35 = .ok (.getstatic 285, 3) := by decide +kernel
theorem dX7_as_38 : decode cX7_as 38 = .ok (.arraylength, 1) := by decide +kernel
theorem dX7_as_39 : decode cX7_as 39 = .ok (.if_icmp .ge 30, 3) := by decide +kernel
theorem dX7_as_42 : decode cX7_as 42 = .ok (.iload_n 3, 1) := by decide +kernel
theorem dX7_as_43 : decode cX7_as 43 = .ok (.ifCond .lt 26, 3) := by decide +kernel
theorem dX7_as_46 : decode cX7_as 46 = .ok (.iload_n 3, 1) := by decide +kernel
theorem dX7_as_47 : decode cX7_as 47 = .ok (.iload_n 2, 1) := by decide +kernel
theorem dX7_as_48 : decode cX7_as 48 = .ok (.if_icmp .ne 9, 3) := by decide +kernel
theorem dX7_as_51 : decode cX7_as 51 = .ok (.aload_n 0, 1) := by decide +kernel
theorem dX7_as_52 : decode cX7_as 52 = .ok (.iload_n 1, 1) := by decide +kernel
theorem dX7_as_53 : decode cX7_as 53 = .ok (.invokevirtual 83, 3) := by decide +kernel
theorem dX7_as_56 : decode cX7_as 56 = .ok (.ireturn, 1) := by decide +kernel
theorem dX7_as_57 : decode cX7_as 57 = .ok (.getstatic 285, 3) := by decide +kernel
theorem dX7_as_60 : decode cX7_as 60 = .ok (.iload_n 3, 1) := by decide +kernel
theorem dX7_as_61 : decode cX7_as 61 = .ok (.iaload, 1) := by decide +kernel
theorem dX7_as_62 : decode cX7_as 62 = .ok (.istore_n 3, 1) := by decide +kernel
theorem dX7_as_63 : decode cX7_as 63 = .ok (.iinc 4 1, 3) := by decide +kernel
theorem dX7_as_66 : decode cX7_as 66 = .ok (.goto (-33), 3) := by decide +kernel
theorem dX7_as_69 : decode cX7_as 69 = .ok (.aload_n 0, 1) := by decide +kernel
theorem dX7_as_70 : decode cX7_as 70 = .ok (.iconst 3, 1) := by decide +kernel
theorem dX7_as_71 : decode cX7_as 71 = .ok (.invokevirtual 75, 3) := by decide +kernel
theorem dX7_as_74 : decode cX7_as 74 = .ok (.ireturn, 1) := by decide +kernel
def rmX7_as : Room := { frames := 2, cells := 0, slots := 0, locals := 43 }
def lpX7_as_33 (M : zM) (o0 : Nat) (x1 : Int32) (x2 : Int32) (Q : Int32 → zM → Prop) : Nat → Int32 → Int32 → Prop
  | 0, _, _ => False
  | fu33 + 1, x7, x8 =>
    (((6 : Int32) ≤ x8) → (
    wX7_found M o0 (3 : Int32) (fun r9 M10 =>
    Q r9 M10))) ∧
    ((¬ (6 : Int32) ≤ x8) → (
    ((x7 < 0) → (
    wX7_found M o0 (3 : Int32) (fun r11 M12 =>
    Q r11 M12))) ∧
    ((¬ x7 < 0) → (
    ((¬ x7 = x2) → (
    vp_in x7 6 ∧
    ∀ x13 : Int32, x13 = x8 + (1 : Int32) →
    lpX7_as_33 M o0 x1 x2 Q fu33 (zalso x7.toNatClampNeg) x13)) ∧
    ((x7 = x2) → (
    wX7_fine M o0 x1 (fun r14 M15 =>
    Q r14 M15)))))))
def wX7_as (M : zM) (o0 : Nat) (x1 : Int32) (x2 : Int32) (Q : Int32 → zM → Prop) : Prop :=
    wX7_isPeg M o0 x1 (fun r5 =>
    ((r5 = 0) → (
    Q (-1000001 : Int32) M)) ∧
    ((¬ r5 = 0) → (
    wX7_isWithin M x2 (0 : Int32) (5 : Int32) (fun r6 =>
    ((¬ r6 = 0) → (
    vp_in x1 12 ∧
    ∃ fu33 : Nat, lpX7_as_33 M o0 x1 x2 Q fu33 (M ((o0 + 20) + 1) x1.toNatClampNeg) (0 : Int32))) ∧
    ((r6 = 0) → (
    Q (-1000001 : Int32) M))))))
set_option maxHeartbeats 4000000 in
set_option maxRecDepth 100000 in
theorem kX7_as {l : Launch} {D : va_G} {Y : zY} {ad kd : Nat → Nat} {RL : List Nat} {M : zM} {J : zL} {o0 : Nat} {x1 : Int32} {x2 : Int32} (h_o0 : kd o0 = 7) {Q : Int32 → zM → Prop} (hq : wX7_as M o0 x1 x2 Q) : zCi l yX7_as wsX7_as rmX7_as [.ref (ad o0), .int x1, .int x2] D Y ad kd RL M J (fun r M' J' => Q r M' ∧ J = J') := by
  refine z_meti (cc := cX7_as) (maxL := 5) (ret := (some .int)) (by decide) rfl (Nat.le_of_ble_eq_true rfl) ?_
  intro p e s m below meth c ls A ar QE hQE hx hb hr hml hown hts hlk hw hl
  have hown : s.vm.findClass RX7 = some m.cls := hown
  have hl : lv_has ls 5 [(0, .ref (ad o0)), (1, .int x1), (2, .int x2)] := hl
  have hC := hw.2.2.2.2.2.1
  obtain ⟨t0, t1, t2, hz0, hT0, hz1, hT1, hz2, hT2⟩ := hw.2.2.2.2.2.2.2.2.2
  have g2 : ∀ w ∈ wsX20, w.before ar s = true := (fun w h => hts w (List.mem_cons_of_mem _ (List.mem_append_right _ h)))
  have g7 : ∀ w ∈ wsX70, w.before ar s = true := (fun w h => hts w (List.mem_cons_of_mem _ (List.mem_append_left _ (List.mem_append_right _ h))))
  have q1 := hts _ (List.mem_of_getElem? (i := 1) rfl)
  have q2 := hts _ (List.mem_of_getElem? (i := 2) rfl)
  have q3 := hts _ (List.mem_of_getElem? (i := 3) rfl)
  have q4 := hts _ (List.mem_of_getElem? (i := 4) rfl)
  unfold wX7_as at hq
  refine lv_aload_n hx hb dX7_as_0 rfl (lv_at hl 0 rfl) ?_
  refine lv_iload_n hx hb dX7_as_1 rfl (lv_at hl 1 rfl) ?_
  refine z_cvi ⟨hx, hb, hml, hown, hts⟩ hw h_o0 (kX7_isPeg h_o0 hq) (by decide) rfl (cwV 1 hts gX7_as_X7_isPeg rfl rfl rfl (by decide +kernel) ⟨Nat.le_of_ble_eq_true rfl, Nat.le_of_ble_eq_true rfl⟩) rfl hl.1 rfl (Nat.le_of_ble_eq_true rfl) dX7_as_2 ⟨Nat.zero_le _, Nat.zero_le _⟩ (fun r5 M0 J0 H locs hq hw => ?_)
  obtain ⟨hq, rfl, rfl⟩ := hq
  refine lv_if_eq (tgt := 17) hx hb dX7_as_5 (by decide) (fun hc => ?_) (fun hc => ?_)
  · have hq := hq.1 hc
    refine lv_ldc (v := (-1000001 : Int32)) hx hb hown q1 dX7_as_17 ?_
    exact z_iret hQE hx hb hr hlk hw dX7_as_19 ⟨hq, rfl⟩
  · have hq := hq.2 hc
    refine lv_iload_n hx hb dX7_as_8 rfl (lv_at hl 2 rfl) ?_
    refine lv_iconst (v := (0 : Int32)) hx hb dX7_as_9 (by decide) ?_
    refine lv_iconst (v := (5 : Int32)) hx hb dX7_as_10 (by decide) ?_
    refine z_csi ⟨hx, hb, hml, hown, hts⟩ hw (kX7_isWithin  hq) (va_cwS 3 hts gX7_as_X7_isWithin rfl rfl rfl (by decide +kernel) ⟨Nat.le_of_ble_eq_true rfl, Nat.le_of_ble_eq_true rfl⟩) rfl hl.1 rfl (Nat.le_of_ble_eq_true rfl) dX7_as_11 ⟨Nat.zero_le _, Nat.zero_le _⟩ (fun r6 M0 J0 H locs hq hw => ?_)
    obtain ⟨hq, rfl, rfl⟩ := hq
    refine lv_if_ne (tgt := 20) hx hb dX7_as_14 (by decide) (fun hc => ?_) (fun hc => ?_)
    · have hq := hq.1 hc
      refine lv_aload_n hx hb dX7_as_20 rfl (lv_at hl 0 rfl) ?_
      refine zg7_rail hx hb g7 hown hw h_o0 q2 dX7_as_21 ?_
      refine zg2_kinds hx hb g2 hown hw (zk_7_20 hC h_o0) q3 dX7_as_24 ?_
      refine lv_iload_n hx hb dX7_as_27 rfl (lv_at hl 1 rfl) ?_
      obtain ⟨hi, hq⟩ := hq
      refine z_iald (n := 12) hx hb hw (zk_2_1 hC (zk_7_20 hC h_o0)) hi dX7_as_28 ?_
      refine lv_istore_n (lv' := [(3, .int (M ((o0 + 20) + 1) x1.toNatClampNeg)), (0, .ref (ad o0)), (1, .int x1), (2, .int x2)]) hx hb dX7_as_29 rfl hl (by decide) rfl (fun ls hl => ?_)
      refine lv_iconst (v := (0 : Int32)) hx hb dX7_as_30 (by decide) ?_
      refine lv_istore (lv' := [(4, .int (0 : Int32)), (3, .int (M ((o0 + 20) + 1) x1.toNatClampNeg)), (0, .ref (ad o0)), (1, .int x1), (2, .int x2)]) hx hb dX7_as_31 hl (by decide) rfl (fun ls hl => ?_)
      obtain ⟨fu33, hq⟩ := hq
      have lp33 : ∀ (fu33 : Nat) (x7 : Int32) (x8 : Int32) (H : Heap) (locs : List Loc) (ls : Array Slot), lpX7_as_33 M o0 x1 x2 Q fu33 x7 x8 → zH D Y ad kd RL M J A s.heap H locs s → lv_has ls 5 [(0, .ref (ad o0)), (1, .int x1), (2, .int x2), (3, .int x7), (4, .int x8)] → W p l e rmX7_as s m ar below meth c H locs 0 0 QE (F0 m 33 ls []) := by
        intro fu33
        induction fu33 with
        | zero => intro x7 x8 H locs ls hq; exact hq.elim
        | succ fu33 ih33 =>
          intro x7 x8 H locs ls hq hw hl
          unfold lpX7_as_33 at hq
          refine lv_iload hx hb dX7_as_33 (lv_at hl 4 rfl) ?_
          refine va_gets hx hb hz0 hw.2.2.2.1 hown q4 (fun _ h => h) dX7_as_35 ?_
          refine va_tlen (v := (6 : Int32)) hx hb hT0 hw.2.2.2.1 (by decide) dX7_as_38 ?_
          refine lv_icmp_ge (tgt := 69) hx hb dX7_as_39 (by decide) (fun hc => ?_) (fun hc => ?_)
          · have hq := hq.1 hc
            refine lv_aload_n hx hb dX7_as_69 rfl (lv_at hl 0 rfl) ?_
            refine lv_iconst (v := (3 : Int32)) hx hb dX7_as_70 (by decide) ?_
            refine z_cvi ⟨hx, hb, hml, hown, hts⟩ hw h_o0 (kX7_found h_o0 hq) (by decide) rfl (cwV 1 hts gX7_as_X7_found rfl rfl rfl (by decide +kernel) ⟨Nat.le_of_ble_eq_true rfl, Nat.le_of_ble_eq_true rfl⟩) rfl hl.1 rfl (Nat.le_of_ble_eq_true rfl) dX7_as_71 ⟨Nat.zero_le _, Nat.zero_le _⟩ (fun r9 M10 J0 H locs hq hw => ?_)
            obtain ⟨hq, rfl⟩ := hq
            exact z_iret hQE hx hb hr hlk hw dX7_as_74 ⟨hq, rfl⟩
          · have hq := hq.2 hc
            refine lv_iload_n hx hb dX7_as_42 rfl (lv_at hl 3 rfl) ?_
            refine lv_if_lt (tgt := 69) hx hb dX7_as_43 (by decide) (fun hc => ?_) (fun hc => ?_)
            · have hq := hq.1 hc
              refine lv_aload_n hx hb dX7_as_69 rfl (lv_at hl 0 rfl) ?_
              refine lv_iconst (v := (3 : Int32)) hx hb dX7_as_70 (by decide) ?_
              refine z_cvi ⟨hx, hb, hml, hown, hts⟩ hw h_o0 (kX7_found h_o0 hq) (by decide) rfl (cwV 1 hts gX7_as_X7_found rfl rfl rfl (by decide +kernel) ⟨Nat.le_of_ble_eq_true rfl, Nat.le_of_ble_eq_true rfl⟩) rfl hl.1 rfl (Nat.le_of_ble_eq_true rfl) dX7_as_71 ⟨Nat.zero_le _, Nat.zero_le _⟩ (fun r11 M12 J0 H locs hq hw => ?_)
              obtain ⟨hq, rfl⟩ := hq
              exact z_iret hQE hx hb hr hlk hw dX7_as_74 ⟨hq, rfl⟩
            · have hq := hq.2 hc
              refine lv_iload_n hx hb dX7_as_46 rfl (lv_at hl 3 rfl) ?_
              refine lv_iload_n hx hb dX7_as_47 rfl (lv_at hl 2 rfl) ?_
              refine lv_icmp_ne (tgt := 57) hx hb dX7_as_48 (by decide) (fun hc => ?_) (fun hc => ?_)
              · have hq := hq.1 hc
                refine va_gets hx hb hz0 hw.2.2.2.1 hown q4 (fun _ h => h) dX7_as_57 ?_
                refine lv_iload_n hx hb dX7_as_60 rfl (lv_at hl 3 rfl) ?_
                obtain ⟨hi, hq⟩ := hq
                refine va_ti hx hb hT0 hw.2.2.2.1 hi rfl dX7_as_61 ?_
                refine lv_istore_n (lv' := [(3, .int (zalso x7.toNatClampNeg)), (0, .ref (ad o0)), (1, .int x1), (2, .int x2), (4, .int x8)]) hx hb dX7_as_62 rfl hl (by decide) rfl (fun ls hl => ?_)
                obtain ⟨x13, e_x13⟩ : ∃ y : Int32, y = x8 + (1 : Int32) := ⟨_, rfl⟩
                have hq := hq x13 e_x13
                refine lv_iinc (v := x13) (lv' := [(4, .int x13), (3, .int (zalso x7.toNatClampNeg)), (0, .ref (ad o0)), (1, .int x1), (2, .int x2)]) hx hb dX7_as_63 hl (k := 4) rfl (by rw [e_x13]; rfl) (by decide) rfl (fun ls hl => ?_)
                refine lv_goto (tgt := 33) hx hb dX7_as_66 (by decide) ?_
                exact ih33 (zalso x7.toNatClampNeg) x13 _ _ _ hq hw (lv_sub hl [2, 3, 4, 1, 0] rfl)
              · have hq := hq.2 hc
                refine lv_aload_n hx hb dX7_as_51 rfl (lv_at hl 0 rfl) ?_
                refine lv_iload_n hx hb dX7_as_52 rfl (lv_at hl 1 rfl) ?_
                refine z_cvi ⟨hx, hb, hml, hown, hts⟩ hw h_o0 (kX7_fine h_o0 hq) (by decide) rfl (cwV 1 hts gX7_as_X7_fine rfl rfl rfl (by decide +kernel) ⟨Nat.le_of_ble_eq_true rfl, Nat.le_of_ble_eq_true rfl⟩) rfl hl.1 rfl (Nat.le_of_ble_eq_true rfl) dX7_as_53 ⟨Nat.zero_le _, Nat.zero_le _⟩ (fun r14 M15 J0 H locs hq hw => ?_)
                obtain ⟨hq, rfl⟩ := hq
                exact z_iret hQE hx hb hr hlk hw dX7_as_56 ⟨hq, rfl⟩
      exact lp33 fu33 (M ((o0 + 20) + 1) x1.toNatClampNeg) (0 : Int32) _ _ _ hq hw (lv_sub hl [2, 3, 4, 1, 0] rfl)
    · have hq := hq.2 hc
      refine lv_ldc (v := (-1000001 : Int32)) hx hb hown q1 dX7_as_17 ?_
      exact z_iret hQE hx hb hr hlk hw dX7_as_19 ⟨hq, rfl⟩
set_option maxRecDepth 20000 in
theorem ggX7_ask_X7_isPeg : GoodIn wsX7_ask wsX7_isPeg := goodIn_r _ [8, 3, 9, 10, 11, 7, 12, 48, 49, 50, 51, 52, 53, 54, 55, 56, 57, 58, 59, 60, 61, 62, 63] (by decide +kernel) (by decide +kernel)
set_option maxRecDepth 20000 in
theorem gX7_ask_X7_isPeg : GoodIn wsX7_ask (wsV RX7 146 RX7 yX7_isPeg wsX7_isPeg) := goodIn_app (goodIn_of _ (by decide +kernel)) ggX7_ask_X7_isPeg
set_option maxRecDepth 20000 in
theorem ggX7_ask_X7_isWithin : GoodIn wsX7_ask wsX7_isWithin := goodIn_r _ [12] (by decide +kernel) (by decide +kernel)
set_option maxRecDepth 20000 in
theorem gX7_ask_X7_isWithin : GoodIn wsX7_ask (va_wsS RX7 70 yX7_isWithin wsX7_isWithin) := goodIn_app (goodIn_of _ (by decide +kernel)) ggX7_ask_X7_isWithin
set_option maxRecDepth 20000 in
theorem ggX7_ask_X0_begin : GoodIn wsX7_ask wsX0_begin := goodIn_r _ [17, 18, 19, 20, 21, 16, 22, 23, 24, 25, 26, 27, 28, 29, 30, 31, 32, 33, 34, 35, 36, 37, 38, 39, 40, 41, 42, 43, 44, 45, 46, 47, 64, 65, 58, 59, 60, 61, 62, 63] (by decide +kernel) (by decide +kernel)
set_option maxRecDepth 20000 in
theorem gX7_ask_X0_begin : GoodIn wsX7_ask (wsV RX7 288 RX0 yX0_begin wsX0_begin) := goodIn_app (goodIn_of _ (by decide +kernel)) ggX7_ask_X0_begin
theorem dX7_ask_0 : decode cX7_ask 0 = .ok (.aload_n 0, 1) := by decide +kernel
theorem dX7_ask_1 : decode cX7_ask 1 = .ok (.iload_n 1, 1) := by decide +kernel
theorem dX7_ask_2 : decode cX7_ask 2 = .ok (.invokevirtual 146, 3) := by decide +kernel
theorem dX7_ask_5 : decode cX7_ask 5 = .ok (.ifCond .eq 12, 3) := by decide +kernel
theorem dX7_ask_8 : decode cX7_ask 8 = .ok (.iload_n 2, 1) := by decide +kernel
theorem dX7_ask_9 : decode cX7_ask 9 = .ok (.iconst 0, 1) := by decide +kernel
theorem dX7_ask_10 : decode cX7_ask 10 = .ok (.iconst 1, 1) := by decide +kernel
theorem dX7_ask_11 : decode cX7_ask 11 = .ok (.invokestatic 70, 3) := by decide +kernel
theorem dX7_ask_14 : decode cX7_ask 14 = .ok (.ifCond .ne 6, 3) := by decide +kernel
theorem dX7_ask_17 : decode cX7_ask 17 = .ok (.ldc 74, 2) := by decide +kernel
theorem dX7_ask_19 : decode cX7_ask 19 = .ok (.ireturn, 1) := by decide +kernel
theorem dX7_ask_20 : decode cX7_ask 20 = .ok (.aload_n 0, 1) := by decide +kernel
theorem dX7_ask_21 : decode cX7_ask 21 = .ok (.getfield 46, 3) := by decide +kernel
theorem dX7_ask_24 : decode cX7_ask 24 = .ok (.aload_n 0, 1) := by decide +kernel
theorem dX7_ask_25 : decode cX7_ask 25 = .ok (.getfield 25, 3) := by decide +kernel
theorem dX7_ask_28 : decode cX7_ask 28 = .ok (.iload_n 1, 1) := by decide +kernel
theorem dX7_ask_29 : decode cX7_ask 29 = .ok (.iload_n 2, 1) := by decide +kernel
theorem dX7_ask_30 : decode cX7_ask 30 = .ok (.invokevirtual 288, 3) := by decide +kernel
theorem dX7_ask_33 : decode cX7_ask 33 = .ok (.ireturn, 1) := by decide +kernel
def rmX7_ask : Room := { frames := 31, cells := 0, slots := 0, locals := 1510 }
def wX7_ask (M : zM) (o0 : Nat) (x1 : Int32) (x2 : Int32) (Q : Int32 → zM → Prop) : Prop :=
    wX7_isPeg M o0 x1 (fun r5 =>
    ((r5 = 0) → (
    Q (-1000001 : Int32) M)) ∧
    ((¬ r5 = 0) → (
    wX7_isWithin M x2 (0 : Int32) (1 : Int32) (fun r6 =>
    ((¬ r6 = 0) → (
    wX0_begin M (o0 + 163) (o0 + 20) x1 x2 (fun r7 M8 =>
    Q r7 M8))) ∧
    ((r6 = 0) → (
    Q (-1000001 : Int32) M))))))
set_option maxHeartbeats 4000000 in
set_option maxRecDepth 100000 in
theorem kX7_ask {l : Launch} {D : va_G} {Y : zY} {ad kd : Nat → Nat} {RL : List Nat} {M : zM} {J : zL} {o0 : Nat} {x1 : Int32} {x2 : Int32} (h_o0 : kd o0 = 7) {Q : Int32 → zM → Prop} (hq : wX7_ask M o0 x1 x2 Q) : zCi l yX7_ask wsX7_ask rmX7_ask [.ref (ad o0), .int x1, .int x2] D Y ad kd RL M J (fun r M' J' => Q r M' ∧ J = J') := by
  refine z_meti (cc := cX7_ask) (maxL := 3) (ret := (some .int)) (by decide) rfl (Nat.le_of_ble_eq_true rfl) ?_
  intro p e s m below meth c ls A ar QE hQE hx hb hr hml hown hts hlk hw hl
  have hown : s.vm.findClass RX7 = some m.cls := hown
  have hl : lv_has ls 3 [(0, .ref (ad o0)), (1, .int x1), (2, .int x2)] := hl
  have hC := hw.2.2.2.2.2.1
  have g7 : ∀ w ∈ wsX70, w.before ar s = true := (fun w h => hts w (List.mem_cons_of_mem _ (List.mem_append_left _ (List.mem_append_left _ (List.mem_append_right _ h)))))
  have q1 := hts _ (List.mem_of_getElem? (i := 1) rfl)
  have q2 := hts _ (List.mem_of_getElem? (i := 2) rfl)
  have q3 := hts _ (List.mem_of_getElem? (i := 3) rfl)
  unfold wX7_ask at hq
  refine lv_aload_n hx hb dX7_ask_0 rfl (lv_at hl 0 rfl) ?_
  refine lv_iload_n hx hb dX7_ask_1 rfl (lv_at hl 1 rfl) ?_
  refine z_cvi ⟨hx, hb, hml, hown, hts⟩ hw h_o0 (kX7_isPeg h_o0 hq) (by decide) rfl (cwV 1 hts gX7_ask_X7_isPeg rfl rfl rfl (by decide +kernel) ⟨Nat.le_of_ble_eq_true rfl, Nat.le_of_ble_eq_true rfl⟩) rfl hl.1 rfl (Nat.le_of_ble_eq_true rfl) dX7_ask_2 ⟨Nat.zero_le _, Nat.zero_le _⟩ (fun r5 M0 J0 H locs hq hw => ?_)
  obtain ⟨hq, rfl, rfl⟩ := hq
  refine lv_if_eq (tgt := 17) hx hb dX7_ask_5 (by decide) (fun hc => ?_) (fun hc => ?_)
  · have hq := hq.1 hc
    refine lv_ldc (v := (-1000001 : Int32)) hx hb hown q1 dX7_ask_17 ?_
    exact z_iret hQE hx hb hr hlk hw dX7_ask_19 ⟨hq, rfl⟩
  · have hq := hq.2 hc
    refine lv_iload_n hx hb dX7_ask_8 rfl (lv_at hl 2 rfl) ?_
    refine lv_iconst (v := (0 : Int32)) hx hb dX7_ask_9 (by decide) ?_
    refine lv_iconst (v := (1 : Int32)) hx hb dX7_ask_10 (by decide) ?_
    refine z_csi ⟨hx, hb, hml, hown, hts⟩ hw (kX7_isWithin  hq) (va_cwS 3 hts gX7_ask_X7_isWithin rfl rfl rfl (by decide +kernel) ⟨Nat.le_of_ble_eq_true rfl, Nat.le_of_ble_eq_true rfl⟩) rfl hl.1 rfl (Nat.le_of_ble_eq_true rfl) dX7_ask_11 ⟨Nat.zero_le _, Nat.zero_le _⟩ (fun r6 M0 J0 H locs hq hw => ?_)
    obtain ⟨hq, rfl, rfl⟩ := hq
    refine lv_if_ne (tgt := 20) hx hb dX7_ask_14 (by decide) (fun hc => ?_) (fun hc => ?_)
    · have hq := hq.1 hc
      refine lv_aload_n hx hb dX7_ask_20 rfl (lv_at hl 0 rfl) ?_
      refine zg7_asks hx hb g7 hown hw h_o0 q2 dX7_ask_21 ?_
      refine lv_aload_n hx hb dX7_ask_24 rfl (lv_at hl 0 rfl) ?_
      refine zg7_rail hx hb g7 hown hw h_o0 q3 dX7_ask_25 ?_
      refine lv_iload_n hx hb dX7_ask_28 rfl (lv_at hl 1 rfl) ?_
      refine lv_iload_n hx hb dX7_ask_29 rfl (lv_at hl 2 rfl) ?_
      refine z_cvi ⟨hx, hb, hml, hown, hts⟩ hw (zk_7_163 hC h_o0) (kX0_begin (zk_7_163 hC h_o0) (zk_7_20 hC h_o0) hq) (by decide) rfl (cwV 3 hts gX7_ask_X0_begin rfl rfl rfl (by decide +kernel) ⟨Nat.le_of_ble_eq_true rfl, Nat.le_of_ble_eq_true rfl⟩) rfl hl.1 rfl (Nat.le_of_ble_eq_true rfl) dX7_ask_30 ⟨Nat.zero_le _, Nat.zero_le _⟩ (fun r7 M8 J0 H locs hq hw => ?_)
      obtain ⟨hq, rfl⟩ := hq
      exact z_iret hQE hx hb hr hlk hw dX7_ask_33 ⟨hq, rfl⟩
    · have hq := hq.2 hc
      refine lv_ldc (v := (-1000001 : Int32)) hx hb hown q1 dX7_ask_17 ?_
      exact z_iret hQE hx hb hr hlk hw dX7_ask_19 ⟨hq, rfl⟩
set_option maxRecDepth 20000 in
theorem ggX7_trace_X7_isWithin : GoodIn wsX7_trace wsX7_isWithin := goodIn_r _ [8] (by decide +kernel) (by decide +kernel)
set_option maxRecDepth 20000 in
theorem gX7_trace_X7_isWithin : GoodIn wsX7_trace (va_wsS RX7 70 yX7_isWithin wsX7_isWithin) := goodIn_app (goodIn_of _ (by decide +kernel)) ggX7_trace_X7_isWithin
theorem dX7_trace_0 : decode cX7_trace 0 = .ok (.iload_n 1, 1) := by decide +kernel
theorem dX7_trace_1 : decode cX7_trace 1 = .ok (.iconst 0, 1) := by decide +kernel
theorem dX7_trace_2 : decode cX7_trace 2 = .ok (.aload_n 0, 1) := by decide +kernel
theorem dX7_trace_3 : decode cX7_trace 3 = .ok (.getfield 46, 3) := by decide +kernel
theorem dX7_trace_6 : decode cX7_trace 6 = .ok (.getfield 291, 3) := by decide +kernel
theorem dX7_trace_9 : decode cX7_trace 9 = .ok (.iconst 1, 1) := by decide +kernel
theorem dX7_trace_10 : decode cX7_trace 10 = .ok (.isub, 1) := by decide +kernel
theorem dX7_trace_11 : decode cX7_trace 11 = .ok (.invokestatic 70, 3) := by decide +kernel
theorem dX7_trace_14 : decode cX7_trace 14 = .ok (.ifCond .eq 15, 3) := by decide +kernel
theorem dX7_trace_17 : decode cX7_trace 17 = .ok (.aload_n 0, 1) := by decide +kernel
theorem dX7_trace_18 : decode cX7_trace 18 = .ok (.getfield 46, 3) := by decide +kernel
theorem dX7_trace_21 : decode cX7_trace 21 = .ok (.getfield 294, 3) := by decide +kernel
theorem dX7_trace_24 : decode cX7_trace 24 = .ok (.iload_n 1, 1) := by decide +kernel
theorem dX7_trace_25 : decode cX7_trace 25 = .ok (.iaload, 1) := by decide +kernel
theorem dX7_trace_26 : decode cX7_trace 26 = .ok (.goto 5, 3) := by decide +kernel
theorem dX7_trace_29 : decode cX7_trace 29 = .ok (.ldc 206, 2) := by decide +kernel
theorem dX7_trace_31 : decode cX7_trace 31 = .ok (.ireturn, 1) := by decide +kernel
def rmX7_trace : Room := { frames := 1, cells := 0, slots := 0, locals := 22 }
def wX7_trace (M : zM) (o0 : Nat) (x1 : Int32) (Q : Int32 → Prop) : Prop :=
    wX7_isWithin M x1 (0 : Int32) ((M (o0 + 163) 0) - (1 : Int32)) (fun r4 =>
    ((r4 = 0) → (
    Q (-1000000 : Int32))) ∧
    ((¬ r4 = 0) → (
    vp_in x1 16 ∧
    Q (M ((o0 + 163) + 1) x1.toNatClampNeg))))
set_option maxHeartbeats 4000000 in
set_option maxRecDepth 100000 in
theorem kX7_trace {l : Launch} {D : va_G} {Y : zY} {ad kd : Nat → Nat} {RL : List Nat} {M : zM} {J : zL} {o0 : Nat} {x1 : Int32} (h_o0 : kd o0 = 7) {Q : Int32 → Prop} (hq : wX7_trace M o0 x1 Q) : zCi l yX7_trace wsX7_trace rmX7_trace [.ref (ad o0), .int x1] D Y ad kd RL M J (fun r M' J' => Q r ∧ M = M' ∧ J = J') := by
  refine z_meti (cc := cX7_trace) (maxL := 2) (ret := (some .int)) (by decide) rfl (Nat.le_of_ble_eq_true rfl) ?_
  intro p e s m below meth c ls A ar QE hQE hx hb hr hml hown hts hlk hw hl
  have hown : s.vm.findClass RX7 = some m.cls := hown
  have hl : lv_has ls 2 [(0, .ref (ad o0)), (1, .int x1)] := hl
  have hC := hw.2.2.2.2.2.1
  have g0 : ∀ w ∈ wsX00, w.before ar s = true := (fun w h => hts w (List.mem_cons_of_mem _ (List.mem_append_right _ h)))
  have g7 : ∀ w ∈ wsX70, w.before ar s = true := (fun w h => hts w (List.mem_cons_of_mem _ (List.mem_append_left _ (List.mem_append_right _ h))))
  have q1 := hts _ (List.mem_of_getElem? (i := 1) rfl)
  have q2 := hts _ (List.mem_of_getElem? (i := 2) rfl)
  have q3 := hts _ (List.mem_of_getElem? (i := 3) rfl)
  have q4 := hts _ (List.mem_of_getElem? (i := 4) rfl)
  unfold wX7_trace at hq
  refine lv_iload_n hx hb dX7_trace_0 rfl (lv_at hl 1 rfl) ?_
  refine lv_iconst (v := (0 : Int32)) hx hb dX7_trace_1 (by decide) ?_
  refine lv_aload_n hx hb dX7_trace_2 rfl (lv_at hl 0 rfl) ?_
  refine zg7_asks hx hb g7 hown hw h_o0 q1 dX7_trace_3 ?_
  refine zg0_left hx hb g0 hown hw (zk_7_163 hC h_o0) q2 dX7_trace_6 ?_
  refine lv_iconst (v := (1 : Int32)) hx hb dX7_trace_9 (by decide) ?_
  refine lv_isub hx hb dX7_trace_10 ?_
  refine z_csi ⟨hx, hb, hml, hown, hts⟩ hw (kX7_isWithin  hq) (va_cwS 3 hts gX7_trace_X7_isWithin rfl rfl rfl (by decide +kernel) ⟨Nat.le_of_ble_eq_true rfl, Nat.le_of_ble_eq_true rfl⟩) rfl hl.1 rfl (Nat.le_of_ble_eq_true rfl) dX7_trace_11 ⟨Nat.zero_le _, Nat.zero_le _⟩ (fun r4 M0 J0 H locs hq hw => ?_)
  obtain ⟨hq, rfl, rfl⟩ := hq
  refine lv_if_eq (tgt := 29) hx hb dX7_trace_14 (by decide) (fun hc => ?_) (fun hc => ?_)
  · have hq := hq.1 hc
    refine lv_ldc (v := (-1000000 : Int32)) hx hb hown q4 dX7_trace_29 ?_
    exact z_iret hQE hx hb hr hlk hw dX7_trace_31 ⟨hq, rfl, rfl⟩
  · have hq := hq.2 hc
    refine lv_aload_n hx hb dX7_trace_17 rfl (lv_at hl 0 rfl) ?_
    refine zg7_asks hx hb g7 hown hw h_o0 q1 dX7_trace_18 ?_
    refine zg0_trace hx hb g0 hown hw (zk_7_163 hC h_o0) q3 dX7_trace_21 ?_
    refine lv_iload_n hx hb dX7_trace_24 rfl (lv_at hl 1 rfl) ?_
    obtain ⟨hi, hq⟩ := hq
    refine z_iald (n := 16) hx hb hw (zk_0_1 hC (zk_7_163 hC h_o0)) hi dX7_trace_25 ?_
    refine lv_goto (tgt := 31) hx hb dX7_trace_26 (by decide) ?_
    exact z_iret hQE hx hb hr hlk hw dX7_trace_31 ⟨hq, rfl, rfl⟩
set_option maxRecDepth 20000 in
theorem ggX7_rowsThere_X3_isMissing : GoodIn wsX7_rowsThere wsX3_isMissing := goodIn_r _ [6, 7, 18, 19, 20] (by decide +kernel) (by decide +kernel)
set_option maxRecDepth 20000 in
theorem gX7_rowsThere_X3_isMissing : GoodIn wsX7_rowsThere (wsV RX7 86 RX3 yX3_isMissing wsX3_isMissing) := goodIn_app (goodIn_of _ (by decide +kernel)) ggX7_rowsThere_X3_isMissing
theorem dX7_rowsThere_0 : decode cX7_rowsThere 0 = .ok (.iconst 0, 1) := by decide +kernel
theorem dX7_rowsThere_1 : decode cX7_rowsThere 1 = .ok (.istore_n 1, 1) := by decide +kernel
theorem dX7_rowsThere_2 : decode cX7_rowsThere 2 = .ok (.iconst 0, 1) := by decide +kernel
theorem dX7_rowsThere_3 : decode cX7_rowsThere 3 = .ok (.istore_n 2, 1) := by decide +kernel
theorem dX7_rowsThere_4 : decode cX7_rowsThere 4 = .ok (.iload_n 2, 1) := by decide +kernel
theorem dX7_rowsThere_5 : decode cX7_rowsThere 5 = .ok (.bipush 8, 2) := by decide +kernel
theorem dX7_rowsThere_7 : decode cX7_rowsThere 7 = .ok (.if_icmp .ge 24, 3) := by decide +kernel
theorem dX7_rowsThere_10 : decode cX7_rowsThere 10 = .ok (.aload_n 0, 1) := by decide +kernel
theorem dX7_rowsThere_11 : decode cX7_rowsThere 11 = .ok (.getfield 11, 3) := by decide +kernel
theorem dX7_rowsThere_14 : decode cX7_rowsThere 14 = .ok (.iload_n 2, 1) := by decide +kernel
theorem dX7_rowsThere_15 : decode cX7_rowsThere 15 = .ok (.aaload, 1) := by decide +kernel
theorem dX7_rowsThere_16 : decode cX7_rowsThere 16 = .ok (.invokevirtual 86, 3) := by decide +kernel
theorem dX7_rowsThere_19 : decode cX7_rowsThere 19 = .ok (.ifCond .ne 6, 3) := by decide +kernel
theorem dX7_rowsThere_22 : decode cX7_rowsThere 22 = .ok (.iinc 1 1, 3) := by decide +kernel
theorem dX7_rowsThere_25 : decode cX7_rowsThere 25 = .ok (.iinc 2 1, 3) := by decide +kernel
theorem dX7_rowsThere_28 : decode cX7_rowsThere 28 = .ok (.goto (-24), 3) := by decide +kernel
theorem dX7_rowsThere_31 : decode cX7_rowsThere 31 = .ok (.iload_n 1, 1) := by decide +kernel
theorem dX7_rowsThere_32 : decode cX7_rowsThere 32 = .ok (.ireturn, 1) := by decide +kernel
def rmX7_rowsThere : Room := { frames := 1, cells := 0, slots := 0, locals := 20 }
def lpX7_rowsThere_4 (M : zM) (o0 : Nat) (Q : Int32 → Prop) : Nat → Int32 → Int32 → Prop
  | 0, _, _ => False
  | fu4 + 1, x3, x4 =>
    (((8 : Int32) ≤ x4) → (
    Q x3)) ∧
    ((¬ (8 : Int32) ≤ x4) → (
    vp_in x4 8 ∧
    wX3_isMissing M ((o0 + 1) + 1 + 2 * x4.toNatClampNeg) (fun r6 =>
    ((¬ r6 = 0) → (
    ∀ x7 : Int32, x7 = x4 + (1 : Int32) →
    lpX7_rowsThere_4 M o0 Q fu4 x3 x7)) ∧
    ((r6 = 0) → (
    ∀ x8 : Int32, x8 = x3 + (1 : Int32) →
    ∀ x9 : Int32, x9 = x4 + (1 : Int32) →
    lpX7_rowsThere_4 M o0 Q fu4 x8 x9)))))
def wX7_rowsThere (M : zM) (o0 : Nat) (Q : Int32 → Prop) : Prop :=
    ∃ fu4 : Nat, lpX7_rowsThere_4 M o0 Q fu4 (0 : Int32) (0 : Int32)
set_option maxHeartbeats 4000000 in
set_option maxRecDepth 100000 in
theorem kX7_rowsThere {l : Launch} {D : va_G} {Y : zY} {ad kd : Nat → Nat} {RL : List Nat} {M : zM} {J : zL} {o0 : Nat} (h_o0 : kd o0 = 7) {Q : Int32 → Prop} (hq : wX7_rowsThere M o0 Q) : zCi l yX7_rowsThere wsX7_rowsThere rmX7_rowsThere [.ref (ad o0)] D Y ad kd RL M J (fun r M' J' => Q r ∧ M = M' ∧ J = J') := by
  refine z_meti (cc := cX7_rowsThere) (maxL := 3) (ret := (some .int)) (by decide) rfl (Nat.le_of_ble_eq_true rfl) ?_
  intro p e s m below meth c ls A ar QE hQE hx hb hr hml hown hts hlk hw hl
  have hown : s.vm.findClass RX7 = some m.cls := hown
  have hl : lv_has ls 3 [(0, .ref (ad o0))] := hl
  have hC := hw.2.2.2.2.2.1
  have g7 : ∀ w ∈ wsX70, w.before ar s = true := (fun w h => hts w (List.mem_cons_of_mem _ (List.mem_append_left _ (List.mem_append_right _ h))))
  have q1 := hts _ (List.mem_of_getElem? (i := 1) rfl)
  unfold wX7_rowsThere at hq
  refine lv_iconst (v := (0 : Int32)) hx hb dX7_rowsThere_0 (by decide) ?_
  refine lv_istore_n (lv' := [(1, .int (0 : Int32)), (0, .ref (ad o0))]) hx hb dX7_rowsThere_1 rfl hl (by decide) rfl (fun ls hl => ?_)
  refine lv_iconst (v := (0 : Int32)) hx hb dX7_rowsThere_2 (by decide) ?_
  refine lv_istore_n (lv' := [(2, .int (0 : Int32)), (1, .int (0 : Int32)), (0, .ref (ad o0))]) hx hb dX7_rowsThere_3 rfl hl (by decide) rfl (fun ls hl => ?_)
  obtain ⟨fu4, hq⟩ := hq
  have lp4 : ∀ (fu4 : Nat) (x3 : Int32) (x4 : Int32) (H : Heap) (locs : List Loc) (ls : Array Slot), lpX7_rowsThere_4 M o0 Q fu4 x3 x4 → zH D Y ad kd RL M J A s.heap H locs s → lv_has ls 3 [(0, .ref (ad o0)), (1, .int x3), (2, .int x4)] → W p l e rmX7_rowsThere s m ar below meth c H locs 0 0 QE (F0 m 4 ls []) := by
    intro fu4
    induction fu4 with
    | zero => intro x3 x4 H locs ls hq; exact hq.elim
    | succ fu4 ih4 =>
      intro x3 x4 H locs ls hq hw hl
      unfold lpX7_rowsThere_4 at hq
      refine lv_iload_n hx hb dX7_rowsThere_4 rfl (lv_at hl 2 rfl) ?_
      refine lv_bipush (v := (8 : Int32)) hx hb dX7_rowsThere_5 (by decide) ?_
      refine lv_icmp_ge (tgt := 31) hx hb dX7_rowsThere_7 (by decide) (fun hc => ?_) (fun hc => ?_)
      · have hq := hq.1 hc
        refine lv_iload_n hx hb dX7_rowsThere_31 rfl (lv_at hl 1 rfl) ?_
        exact z_iret hQE hx hb hr hlk hw dX7_rowsThere_32 ⟨hq, rfl, rfl⟩
      · have hq := hq.2 hc
        refine lv_aload_n hx hb dX7_rowsThere_10 rfl (lv_at hl 0 rfl) ?_
        refine zg7_rows hx hb g7 hown hw h_o0 q1 dX7_rowsThere_11 ?_
        refine lv_iload_n hx hb dX7_rowsThere_14 rfl (lv_at hl 2 rfl) ?_
        obtain ⟨hi, hq⟩ := hq
        have hk5 := zk_13 hC (zk_7_1 hC h_o0) (z_lt hi)
        refine z_ald13 hx hb hw (zk_7_1 hC h_o0) hi dX7_rowsThere_15 ?_
        refine z_cvi ⟨hx, hb, hml, hown, hts⟩ hw hk5 (kX3_isMissing hk5 hq) (by decide) rfl (cwV 0 hts gX7_rowsThere_X3_isMissing rfl rfl rfl (by decide +kernel) ⟨Nat.le_of_ble_eq_true rfl, Nat.le_of_ble_eq_true rfl⟩) rfl hl.1 rfl (Nat.le_of_ble_eq_true rfl) dX7_rowsThere_16 ⟨Nat.zero_le _, Nat.zero_le _⟩ (fun r6 M0 J0 H locs hq hw => ?_)
        obtain ⟨hq, rfl, rfl⟩ := hq
        refine lv_if_ne (tgt := 25) hx hb dX7_rowsThere_19 (by decide) (fun hc => ?_) (fun hc => ?_)
        · have hq := hq.1 hc
          obtain ⟨x7, e_x7⟩ : ∃ y : Int32, y = x4 + (1 : Int32) := ⟨_, rfl⟩
          have hq := hq x7 e_x7
          refine lv_iinc (v := x7) (lv' := [(2, .int x7), (0, .ref (ad o0)), (1, .int x3)]) hx hb dX7_rowsThere_25 hl (k := 2) rfl (by rw [e_x7]; rfl) (by decide) rfl (fun ls hl => ?_)
          refine lv_goto (tgt := 4) hx hb dX7_rowsThere_28 (by decide) ?_
          exact ih4 x3 x7 _ _ _ hq hw (lv_sub hl [1, 2, 0] rfl)
        · have hq := hq.2 hc
          obtain ⟨x8, e_x8⟩ : ∃ y : Int32, y = x3 + (1 : Int32) := ⟨_, rfl⟩
          have hq := hq x8 e_x8
          refine lv_iinc (v := x8) (lv' := [(1, .int x8), (0, .ref (ad o0)), (2, .int x4)]) hx hb dX7_rowsThere_22 hl (k := 1) rfl (by rw [e_x8]; rfl) (by decide) rfl (fun ls hl => ?_)
          obtain ⟨x9, e_x9⟩ : ∃ y : Int32, y = x4 + (1 : Int32) := ⟨_, rfl⟩
          have hq := hq x9 e_x9
          refine lv_iinc (v := x9) (lv' := [(2, .int x9), (1, .int x8), (0, .ref (ad o0))]) hx hb dX7_rowsThere_25 hl (k := 2) rfl (by rw [e_x9]; rfl) (by decide) rfl (fun ls hl => ?_)
          refine lv_goto (tgt := 4) hx hb dX7_rowsThere_28 (by decide) ?_
          exact ih4 x8 x9 _ _ _ hq hw (lv_sub hl [2, 1, 0] rfl)
  exact lp4 fu4 (0 : Int32) (0 : Int32) _ _ _ hq hw (lv_sub hl [2, 1, 0] rfl)
set_option maxRecDepth 20000 in
theorem ggX7_count_X7_rowsThere : GoodIn wsX7_count wsX7_rowsThere := goodIn_r _ [13, 14, 15, 16, 17, 18, 19, 20, 28, 29, 30, 31, 32, 33, 34, 35, 36, 37, 51, 52, 53] (by decide +kernel) (by decide +kernel)
set_option maxRecDepth 20000 in
theorem gX7_count_X7_rowsThere : GoodIn wsX7_count (wsV RX7 297 RX7 yX7_rowsThere wsX7_rowsThere) := goodIn_app (goodIn_of _ (by decide +kernel)) ggX7_count_X7_rowsThere
set_option maxRecDepth 20000 in
theorem ggX7_count_X2_slewed : GoodIn wsX7_count wsX2_slewed := goodIn_r _ [25, 26, 27, 38, 39, 40, 41, 42, 43] (by decide +kernel) (by decide +kernel)
set_option maxRecDepth 20000 in
theorem gX7_count_X2_slewed : GoodIn wsX7_count (wsV RX7 300 RX2 yX2_slewed wsX2_slewed) := goodIn_app (goodIn_of _ (by decide +kernel)) ggX7_count_X2_slewed
theorem dX7_count_0 : decode cX7_count 0 = .ok (.iload_n 1, 1) := by decide +kernel
theorem dX7_count_1 : decode cX7_count 1 = .ok (.tableswitch 84 0 5 #[39, 44, 52, 60, 68, 76], 39) := by decide +kernel
theorem dX7_count_40 : decode cX7_count 40 = .ok (.aload_n 0, 1) := by decide +kernel
theorem dX7_count_41 : decode cX7_count 41 = .ok (.invokevirtual 297, 3) := by decide +kernel
theorem dX7_count_44 : decode cX7_count 44 = .ok (.ireturn, 1) := by decide +kernel
theorem dX7_count_45 : decode cX7_count 45 = .ok (.aload_n 0, 1) := by decide +kernel
theorem dX7_count_46 : decode cX7_count 46 = .ok (.getfield 25, 3) := by decide +kernel
theorem dX7_count_49 : decode cX7_count 49 = .ok (.getfield 140, 3) := by decide +kernel
theorem dX7_count_52 : decode cX7_count 52 = .ok (.ireturn, 1) := by decide +kernel
theorem dX7_count_53 : decode cX7_count 53 = .ok (.aload_n 0, 1) := by decide +kernel
theorem dX7_count_54 : decode cX7_count 54 = .ok (.getfield 25, 3) := by decide +kernel
theorem dX7_count_57 : decode cX7_count 57 = .ok (.invokevirtual 300, 3) := by decide +kernel
theorem dX7_count_60 : decode cX7_count 60 = .ok (.ireturn, 1) := by decide +kernel
theorem dX7_count_61 : decode cX7_count 61 = .ok (.aload_n 0, 1) := by decide +kernel
theorem dX7_count_62 : decode cX7_count 62 = .ok (.getfield 25, 3) := by decide +kernel
theorem dX7_count_65 : decode cX7_count 65 = .ok (.getfield 176, 3) := by decide +kernel
theorem dX7_count_68 : decode cX7_count 68 = .ok (.ireturn, 1) := by decide +kernel
theorem dX7_count_69 : decode cX7_count 69 = .ok (.aload_n 0, 1) := by decide +kernel
theorem dX7_count_70 : decode cX7_count 70 = .ok (.getfield 39, 3) := by decide +kernel
theorem dX7_count_73 : decode cX7_count 73 = .ok (.getfield 197, 3) := by decide +kernel
theorem dX7_count_76 : decode cX7_count 76 = .ok (.ireturn, 1) := by decide +kernel
theorem dX7_count_77 : decode cX7_count 77 = .ok (.aload_n 0, 1) := by decide +kernel
theorem dX7_count_78 : decode cX7_count 78 = .ok (.getfield 18, 3) := by decide +kernel
theorem dX7_count_81 : decode cX7_count 81 = .ok (.getfield 303, 3) := by decide +kernel
theorem dX7_count_84 : decode cX7_count 84 = .ok (.ireturn, 1) := by decide +kernel
theorem dX7_count_85 : decode cX7_count 85 = .ok (.ldc 74, 2) := by decide +kernel
theorem dX7_count_87 : decode cX7_count 87 = .ok (.ireturn, 1) := by decide +kernel
def rmX7_count : Room := { frames := 2, cells := 0, slots := 0, locals := 42 }
def wX7_count (M : zM) (o0 : Nat) (x1 : Int32) (Q : Int32 → Prop) : Prop :=
    ((x1.toInt < 0 ∨ 5 < x1.toInt) → (
    Q (-1000001 : Int32))) ∧
    ((x1.toInt = 0) → (
    wX7_rowsThere M o0 (fun r4 =>
    Q r4))) ∧
    ((x1.toInt = 1) → (
    Q (M (o0 + 20) 0))) ∧
    ((x1.toInt = 2) → (
    wX2_slewed M (o0 + 20) (fun r5 =>
    Q r5))) ∧
    ((x1.toInt = 3) → (
    Q (M (o0 + 20) 1))) ∧
    ((x1.toInt = 4) → (
    Q (M (o0 + 41) 0))) ∧
    ((x1.toInt = 5) → (
    Q (M (o0 + 18) 0)))
set_option maxHeartbeats 4000000 in
set_option maxRecDepth 100000 in
theorem kX7_count {l : Launch} {D : va_G} {Y : zY} {ad kd : Nat → Nat} {RL : List Nat} {M : zM} {J : zL} {o0 : Nat} {x1 : Int32} (h_o0 : kd o0 = 7) {Q : Int32 → Prop} (hq : wX7_count M o0 x1 Q) : zCi l yX7_count wsX7_count rmX7_count [.ref (ad o0), .int x1] D Y ad kd RL M J (fun r M' J' => Q r ∧ M = M' ∧ J = J') := by
  refine z_meti (cc := cX7_count) (maxL := 2) (ret := (some .int)) (by decide) rfl (Nat.le_of_ble_eq_true rfl) ?_
  intro p e s m below meth c ls A ar QE hQE hx hb hr hml hown hts hlk hw hl
  have hown : s.vm.findClass RX7 = some m.cls := hown
  have hl : lv_has ls 2 [(0, .ref (ad o0)), (1, .int x1)] := hl
  have hC := hw.2.2.2.2.2.1
  have g1 : ∀ w ∈ wsX10, w.before ar s = true := (fun w h => hts w (List.mem_cons_of_mem _ (List.mem_append_left _ (List.mem_append_left _ (List.mem_append_right _ h)))))
  have g2 : ∀ w ∈ wsX20, w.before ar s = true := (fun w h => hts w (List.mem_cons_of_mem _ (List.mem_append_left _ (List.mem_append_left _ (List.mem_append_left _ (List.mem_append_right _ h))))))
  have g6 : ∀ w ∈ wsX60, w.before ar s = true := (fun w h => hts w (List.mem_cons_of_mem _ (List.mem_append_left _ (List.mem_append_right _ h))))
  have g7 : ∀ w ∈ wsX70, w.before ar s = true := (fun w h => hts w (List.mem_cons_of_mem _ (List.mem_append_left _ (List.mem_append_left _ (List.mem_append_left _ (List.mem_append_left _ (List.mem_append_right _ h)))))))
  have q1 := hts _ (List.mem_of_getElem? (i := 1) rfl)
  have q2 := hts _ (List.mem_of_getElem? (i := 2) rfl)
  have q3 := hts _ (List.mem_of_getElem? (i := 3) rfl)
  have q4 := hts _ (List.mem_of_getElem? (i := 4) rfl)
  have q5 := hts _ (List.mem_of_getElem? (i := 5) rfl)
  have q6 := hts _ (List.mem_of_getElem? (i := 6) rfl)
  have q7 := hts _ (List.mem_of_getElem? (i := 7) rfl)
  have q8 := hts _ (List.mem_of_getElem? (i := 8) rfl)
  unfold wX7_count at hq
  refine lv_iload_n hx hb dX7_count_0 rfl (lv_at hl 1 rfl) ?_
  by_cases hsw : x1.toInt < 0 ∨ 5 < x1.toInt
  · refine lv_tableOut (tgt := 85) hx hb dX7_count_1 hsw (by decide) ?_
    have hq := hq.1 hsw
    refine lv_ldc (v := (-1000001 : Int32)) hx hb hown q8 dX7_count_85 ?_
    exact z_iret hQE hx hb hr hlk hw dX7_count_87 ⟨hq, rfl, rfl⟩
  · have hq := hq.2
    rcases (show x1.toInt = 0 ∨ x1.toInt = 1 ∨ x1.toInt = 2 ∨ x1.toInt = 3 ∨ x1.toInt = 4 ∨ x1.toInt = 5 by omega) with hs | hs | hs | hs | hs | hs
    · refine lv_tableIn (off := 39) (tgt := 40) hx hb dX7_count_1 (by omega) (by omega) (by rw [hs]; rfl) (by decide) ?_
      have hq := hq.1 hs
      refine lv_aload_n hx hb dX7_count_40 rfl (lv_at hl 0 rfl) ?_
      refine z_cvi ⟨hx, hb, hml, hown, hts⟩ hw h_o0 (kX7_rowsThere h_o0 hq) (by decide) rfl (cwV 0 hts gX7_count_X7_rowsThere rfl rfl rfl (by decide +kernel) ⟨Nat.le_of_ble_eq_true rfl, Nat.le_of_ble_eq_true rfl⟩) rfl hl.1 rfl (Nat.le_of_ble_eq_true rfl) dX7_count_41 ⟨Nat.zero_le _, Nat.zero_le _⟩ (fun r4 M0 J0 H locs hq hw => ?_)
      obtain ⟨hq, rfl, rfl⟩ := hq
      exact z_iret hQE hx hb hr hlk hw dX7_count_44 ⟨hq, rfl, rfl⟩
    · refine lv_tableIn (off := 44) (tgt := 45) hx hb dX7_count_1 (by omega) (by omega) (by rw [hs]; rfl) (by decide) ?_
      have hq := hq.2.1 hs
      refine lv_aload_n hx hb dX7_count_45 rfl (lv_at hl 0 rfl) ?_
      refine zg7_rail hx hb g7 hown hw h_o0 q1 dX7_count_46 ?_
      refine zg2_pegs hx hb g2 hown hw (zk_7_20 hC h_o0) q2 dX7_count_49 ?_
      exact z_iret hQE hx hb hr hlk hw dX7_count_52 ⟨hq, rfl, rfl⟩
    · refine lv_tableIn (off := 52) (tgt := 53) hx hb dX7_count_1 (by omega) (by omega) (by rw [hs]; rfl) (by decide) ?_
      have hq := hq.2.2.1 hs
      refine lv_aload_n hx hb dX7_count_53 rfl (lv_at hl 0 rfl) ?_
      refine zg7_rail hx hb g7 hown hw h_o0 q1 dX7_count_54 ?_
      refine z_cvi ⟨hx, hb, hml, hown, hts⟩ hw (zk_7_20 hC h_o0) (kX2_slewed (zk_7_20 hC h_o0) hq) (by decide) rfl (cwV 0 hts gX7_count_X2_slewed rfl rfl rfl (by decide +kernel) ⟨Nat.le_of_ble_eq_true rfl, Nat.le_of_ble_eq_true rfl⟩) rfl hl.1 rfl (Nat.le_of_ble_eq_true rfl) dX7_count_57 ⟨Nat.zero_le _, Nat.zero_le _⟩ (fun r5 M0 J0 H locs hq hw => ?_)
      obtain ⟨hq, rfl, rfl⟩ := hq
      exact z_iret hQE hx hb hr hlk hw dX7_count_60 ⟨hq, rfl, rfl⟩
    · refine lv_tableIn (off := 60) (tgt := 61) hx hb dX7_count_1 (by omega) (by omega) (by rw [hs]; rfl) (by decide) ?_
      have hq := hq.2.2.2.1 hs
      refine lv_aload_n hx hb dX7_count_61 rfl (lv_at hl 0 rfl) ?_
      refine zg7_rail hx hb g7 hown hw h_o0 q1 dX7_count_62 ?_
      refine zg2_worked hx hb g2 hown hw (zk_7_20 hC h_o0) q3 dX7_count_65 ?_
      exact z_iret hQE hx hb hr hlk hw dX7_count_68 ⟨hq, rfl, rfl⟩
    · refine lv_tableIn (off := 68) (tgt := 69) hx hb dX7_count_1 (by omega) (by omega) (by rw [hs]; rfl) (by decide) ?_
      have hq := hq.2.2.2.2.1 hs
      refine lv_aload_n hx hb dX7_count_69 rfl (lv_at hl 0 rfl) ?_
      refine zg7_history hx hb g7 hown hw h_o0 q4 dX7_count_70 ?_
      refine zg1_held hx hb g1 hown hw (zk_7_41 hC h_o0) q5 dX7_count_73 ?_
      exact z_iret hQE hx hb hr hlk hw dX7_count_76 ⟨hq, rfl, rfl⟩
    · refine lv_tableIn (off := 76) (tgt := 77) hx hb dX7_count_1 (by omega) (by omega) (by rw [hs]; rfl) (by decide) ?_
      have hq := hq.2.2.2.2.2 hs
      refine lv_aload_n hx hb dX7_count_77 rfl (lv_at hl 0 rfl) ?_
      refine zg7_tape hx hb g7 hown hw h_o0 q6 dX7_count_78 ?_
      refine zg6_length hx hb g6 hown hw (zk_7_18 hC h_o0) q7 dX7_count_81 ?_
      exact z_iret hQE hx hb hr hlk hw dX7_count_84 ⟨hq, rfl, rfl⟩
theorem dX7_status_0 : decode cX7_status 0 = .ok (.aload_n 0, 1) := by decide +kernel
theorem dX7_status_1 : decode cX7_status 1 = .ok (.getfield 61, 3) := by decide +kernel
theorem dX7_status_4 : decode cX7_status 4 = .ok (.ireturn, 1) := by decide +kernel
def rmX7_status : Room := { frames := 0, cells := 0, slots := 0, locals := 0 }
def wX7_status (M : zM) (o0 : Nat) (Q : Int32 → Prop) : Prop :=
    Q (M o0 0)
set_option maxHeartbeats 4000000 in
set_option maxRecDepth 100000 in
theorem kX7_status {l : Launch} {D : va_G} {Y : zY} {ad kd : Nat → Nat} {RL : List Nat} {M : zM} {J : zL} {o0 : Nat} (h_o0 : kd o0 = 7) {Q : Int32 → Prop} (hq : wX7_status M o0 Q) : zCi l yX7_status wsX7_status rmX7_status [.ref (ad o0)] D Y ad kd RL M J (fun r M' J' => Q r ∧ M = M' ∧ J = J') := by
  refine z_meti (cc := cX7_status) (maxL := 1) (ret := (some .int)) (by decide) rfl (Nat.le_of_ble_eq_true rfl) ?_
  intro p e s m below meth c ls A ar QE hQE hx hb hr hml hown hts hlk hw hl
  have hown : s.vm.findClass RX7 = some m.cls := hown
  have hl : lv_has ls 1 [(0, .ref (ad o0))] := hl
  have hC := hw.2.2.2.2.2.1
  have g7 : ∀ w ∈ wsX70, w.before ar s = true := (fun w h => hts w (List.mem_cons_of_mem _ (List.mem_append_right _ h)))
  have q1 := hts _ (List.mem_of_getElem? (i := 1) rfl)
  unfold wX7_status at hq
  refine lv_aload_n hx hb dX7_status_0 rfl (lv_at hl 0 rfl) ?_
  refine zg7_status hx hb g7 hown hw h_o0 q1 dX7_status_1 ?_
  exact z_iret hQE hx hb hr hlk hw dX7_status_4 ⟨hq, rfl, rfl⟩
