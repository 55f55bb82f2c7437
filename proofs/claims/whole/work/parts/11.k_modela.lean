theorem dX8_in_0 : decode cX8_in 0 = .ok (.iload_n 0, 1) := by decide +kernel
theorem dX8_in_1 : decode cX8_in 1 = .ok (.iload_n 1, 1) := by decide +kernel
theorem dX8_in_2 : decode cX8_in 2 = .ok (.if_icmp .lt 12, 3) := by decide +kernel
theorem dX8_in_5 : decode cX8_in 5 = .ok (.iload_n 0, 1) := by decide +kernel
theorem dX8_in_6 : decode cX8_in 6 = .ok (.iload_n 2, 1) := by decide +kernel
theorem dX8_in_7 : decode cX8_in 7 = .ok (.if_icmp .gt 7, 3) := by decide +kernel
theorem dX8_in_10 : decode cX8_in 10 = .ok (.iconst 1, 1) := by decide +kernel
theorem dX8_in_11 : decode cX8_in 11 = .ok (.goto 4, 3) := by decide +kernel
theorem dX8_in_14 : decode cX8_in 14 = .ok (.iconst 0, 1) := by decide +kernel
theorem dX8_in_15 : decode cX8_in 15 = .ok (.ireturn, 1) := by decide +kernel
def rmX8_in : Room := { frames := 0, cells := 0, slots := 0, locals := 0 }
def wX8_in (M : zM) (x0 : Int32) (x1 : Int32) (x2 : Int32) (Q : Int32 → Prop) : Prop :=
    ((x0 < x1) → (
    Q (0 : Int32))) ∧
    ((¬ x0 < x1) → (
    ((x2 < x0) → (
    Q (0 : Int32))) ∧
    ((¬ x2 < x0) → (
    Q (1 : Int32)))))
set_option maxHeartbeats 4000000 in
set_option maxRecDepth 100000 in
theorem kX8_in {l : Launch} {D : va_G} {Y : zY} {ad kd : Nat → Nat} {RL : List Nat} {M : zM} {J : zL} {x0 : Int32} {x1 : Int32} {x2 : Int32}  {Q : Int32 → Prop} (hq : wX8_in M x0 x1 x2 Q) : zCi l yX8_in wsX8_in rmX8_in [.int x0, .int x1, .int x2] D Y ad kd RL M J (fun r M' J' => Q r ∧ M = M' ∧ J = J') := by
  refine z_meti (cc := cX8_in) (maxL := 3) (ret := (some .boolean)) (by decide) rfl (Nat.le_of_ble_eq_true rfl) ?_
  intro p e s m below meth c ls A ar QE hQE hx hb hr hml hown hts hlk hw hl
  have hown : s.vm.findClass RX8 = some m.cls := hown
  have hl : lv_has ls 3 [(0, .int x0), (1, .int x1), (2, .int x2)] := hl
  have hC := hw.2.2.2.2.2.1
  unfold wX8_in at hq
  refine lv_iload_n hx hb dX8_in_0 rfl (lv_at hl 0 rfl) ?_
  refine lv_iload_n hx hb dX8_in_1 rfl (lv_at hl 1 rfl) ?_
  refine lv_icmp_lt (tgt := 14) hx hb dX8_in_2 (by decide) (fun hc => ?_) (fun hc => ?_)
  · have hq := hq.1 hc
    refine lv_iconst (v := (0 : Int32)) hx hb dX8_in_14 (by decide) ?_
    exact z_zret hQE hx hb hr hlk hw dX8_in_15 (by decide) ⟨hq, rfl, rfl⟩
  · have hq := hq.2 hc
    refine lv_iload_n hx hb dX8_in_5 rfl (lv_at hl 0 rfl) ?_
    refine lv_iload_n hx hb dX8_in_6 rfl (lv_at hl 2 rfl) ?_
    refine lv_icmp_gt (tgt := 14) hx hb dX8_in_7 (by decide) (fun hc => ?_) (fun hc => ?_)
    · have hq := hq.1 hc
      refine lv_iconst (v := (0 : Int32)) hx hb dX8_in_14 (by decide) ?_
      exact z_zret hQE hx hb hr hlk hw dX8_in_15 (by decide) ⟨hq, rfl, rfl⟩
    · have hq := hq.2 hc
      refine lv_iconst (v := (1 : Int32)) hx hb dX8_in_10 (by decide) ?_
      refine lv_goto (tgt := 15) hx hb dX8_in_11 (by decide) ?_
      exact z_zret hQE hx hb hr hlk hw dX8_in_15 (by decide) ⟨hq, rfl, rfl⟩
theorem dX8_size_0 : decode cX8_size 0 = .ok (.iload_n 0, 1) := by decide +kernel
theorem dX8_size_1 : decode cX8_size 1 = .ok (.ifCond .ge 8, 3) := by decide +kernel
theorem dX8_size_4 : decode cX8_size 4 = .ok (.iload_n 0, 1) := by decide +kernel
theorem dX8_size_5 : decode cX8_size 5 = .ok (.ineg, 1) := by decide +kernel
theorem dX8_size_6 : decode cX8_size 6 = .ok (.goto 4, 3) := by decide +kernel
theorem dX8_size_9 : decode cX8_size 9 = .ok (.iload_n 0, 1) := by decide +kernel
theorem dX8_size_10 : decode cX8_size 10 = .ok (.ireturn, 1) := by decide +kernel
def rmX8_size : Room := { frames := 0, cells := 0, slots := 0, locals := 0 }
def wX8_size (M : zM) (x0 : Int32) (Q : Int32 → Prop) : Prop :=
    ((0 ≤ x0) → (
    Q x0)) ∧
    ((¬ 0 ≤ x0) → (
    Q (-x0)))
set_option maxHeartbeats 4000000 in
set_option maxRecDepth 100000 in
theorem kX8_size {l : Launch} {D : va_G} {Y : zY} {ad kd : Nat → Nat} {RL : List Nat} {M : zM} {J : zL} {x0 : Int32}  {Q : Int32 → Prop} (hq : wX8_size M x0 Q) : zCi l yX8_size wsX8_size rmX8_size [.int x0] D Y ad kd RL M J (fun r M' J' => Q r ∧ M = M' ∧ J = J') := by
  refine z_meti (cc := cX8_size) (maxL := 1) (ret := (some .int)) (by decide) rfl (Nat.le_of_ble_eq_true rfl) ?_
  intro p e s m below meth c ls A ar QE hQE hx hb hr hml hown hts hlk hw hl
  have hown : s.vm.findClass RX8 = some m.cls := hown
  have hl : lv_has ls 1 [(0, .int x0)] := hl
  have hC := hw.2.2.2.2.2.1
  unfold wX8_size at hq
  refine lv_iload_n hx hb dX8_size_0 rfl (lv_at hl 0 rfl) ?_
  refine lv_if_ge (tgt := 9) hx hb dX8_size_1 (by decide) (fun hc => ?_) (fun hc => ?_)
  · have hq := hq.1 hc
    refine lv_iload_n hx hb dX8_size_9 rfl (lv_at hl 0 rfl) ?_
    exact z_iret hQE hx hb hr hlk hw dX8_size_10 ⟨hq, rfl, rfl⟩
  · have hq := hq.2 hc
    refine lv_iload_n hx hb dX8_size_4 rfl (lv_at hl 0 rfl) ?_
    refine lv_ineg hx hb dX8_size_5 ?_
    refine lv_goto (tgt := 10) hx hb dX8_size_6 (by decide) ?_
    exact z_iret hQE hx hb hr hlk hw dX8_size_10 ⟨hq, rfl, rfl⟩
theorem dX8_found_0 : decode cX8_found 0 = .ok (.aload_n 0, 1) := by decide +kernel
theorem dX8_found_1 : decode cX8_found 1 = .ok (.iload_n 1, 1) := by decide +kernel
theorem dX8_found_2 : decode cX8_found 2 = .ok (.putfield 54, 3) := by decide +kernel
theorem dX8_found_5 : decode cX8_found 5 = .ok (.ldc 58, 2) := by decide +kernel
theorem dX8_found_7 : decode cX8_found 7 = .ok (.iload_n 1, 1) := by decide +kernel
theorem dX8_found_8 : decode cX8_found 8 = .ok (.isub, 1) := by decide +kernel
theorem dX8_found_9 : decode cX8_found 9 = .ok (.ireturn, 1) := by decide +kernel
def rmX8_found : Room := { frames := 0, cells := 0, slots := 0, locals := 0 }
def wX8_found (M : zM) (o0 : Nat) (x1 : Int32) (Q : Int32 → zM → Prop) : Prop :=
    ∀ M4 : zM, M4 = va_up M o0 (upd (M o0) 0 x1) →
    Q ((-1000010 : Int32) - x1) M4
set_option maxHeartbeats 4000000 in
set_option maxRecDepth 100000 in
theorem kX8_found {l : Launch} {D : va_G} {Y : zY} {ad kd : Nat → Nat} {RL : List Nat} {M : zM} {J : zL} {o0 : Nat} {x1 : Int32} (h_o0 : kd o0 = 8) {Q : Int32 → zM → Prop} (hq : wX8_found M o0 x1 Q) : zCi l yX8_found wsX8_found rmX8_found [.ref (ad o0), .int x1] D Y ad kd RL M J (fun r M' J' => Q r M' ∧ J = J') := by
  refine z_meti (cc := cX8_found) (maxL := 2) (ret := (some .int)) (by decide) rfl (Nat.le_of_ble_eq_true rfl) ?_
  intro p e s m below meth c ls A ar QE hQE hx hb hr hml hown hts hlk hw hl
  have hown : s.vm.findClass RX8 = some m.cls := hown
  have hl : lv_has ls 2 [(0, .ref (ad o0)), (1, .int x1)] := hl
  have hC := hw.2.2.2.2.2.1
  have g8 : ∀ w ∈ wsX80, w.before ar s = true := (fun w h => hts w (List.mem_cons_of_mem _ (List.mem_append_right _ h)))
  have q1 := hts _ (List.mem_of_getElem? (i := 1) rfl)
  have q2 := hts _ (List.mem_of_getElem? (i := 2) rfl)
  unfold wX8_found at hq
  refine lv_aload_n hx hb dX8_found_0 rfl (lv_at hl 0 rfl) ?_
  refine lv_iload_n hx hb dX8_found_1 rfl (lv_at hl 1 rfl) ?_
  refine zp8_status hx hb g8 hown hw h_o0 q1 dX8_found_2 (fun H locs hw => ?_)
  obtain ⟨M4, e_M4⟩ : ∃ y : zM, y = va_up M o0 (upd (M o0) 0 x1) := ⟨_, rfl⟩
  rw [← e_M4] at hw
  have hq := hq M4 e_M4
  refine lv_ldc (v := (-1000010 : Int32)) hx hb hown q2 dX8_found_5 ?_
  refine lv_iload_n hx hb dX8_found_7 rfl (lv_at hl 1 rfl) ?_
  refine lv_isub hx hb dX8_found_8 ?_
  exact z_iret hQE hx hb hr hlk hw dX8_found_9 ⟨hq, rfl⟩
theorem dX8_well_0 : decode cX8_well 0 = .ok (.aload_n 0, 1) := by decide +kernel
theorem dX8_well_1 : decode cX8_well 1 = .ok (.iconst 0, 1) := by decide +kernel
theorem dX8_well_2 : decode cX8_well 2 = .ok (.putfield 54, 3) := by decide +kernel
theorem dX8_well_5 : decode cX8_well 5 = .ok (.iload_n 1, 1) := by decide +kernel
theorem dX8_well_6 : decode cX8_well 6 = .ok (.ireturn, 1) := by decide +kernel
def rmX8_well : Room := { frames := 0, cells := 0, slots := 0, locals := 0 }
def wX8_well (M : zM) (o0 : Nat) (x1 : Int32) (Q : Int32 → zM → Prop) : Prop :=
    ∀ M4 : zM, M4 = va_up M o0 (upd (M o0) 0 (0 : Int32)) →
    Q x1 M4
set_option maxHeartbeats 4000000 in
set_option maxRecDepth 100000 in
theorem kX8_well {l : Launch} {D : va_G} {Y : zY} {ad kd : Nat → Nat} {RL : List Nat} {M : zM} {J : zL} {o0 : Nat} {x1 : Int32} (h_o0 : kd o0 = 8) {Q : Int32 → zM → Prop} (hq : wX8_well M o0 x1 Q) : zCi l yX8_well wsX8_well rmX8_well [.ref (ad o0), .int x1] D Y ad kd RL M J (fun r M' J' => Q r M' ∧ J = J') := by
  refine z_meti (cc := cX8_well) (maxL := 2) (ret := (some .int)) (by decide) rfl (Nat.le_of_ble_eq_true rfl) ?_
  intro p e s m below meth c ls A ar QE hQE hx hb hr hml hown hts hlk hw hl
  have hown : s.vm.findClass RX8 = some m.cls := hown
  have hl : lv_has ls 2 [(0, .ref (ad o0)), (1, .int x1)] := hl
  have hC := hw.2.2.2.2.2.1
  have g8 : ∀ w ∈ wsX80, w.before ar s = true := (fun w h => hts w (List.mem_cons_of_mem _ (List.mem_append_right _ h)))
  have q1 := hts _ (List.mem_of_getElem? (i := 1) rfl)
  unfold wX8_well at hq
  refine lv_aload_n hx hb dX8_well_0 rfl (lv_at hl 0 rfl) ?_
  refine lv_iconst (v := (0 : Int32)) hx hb dX8_well_1 (by decide) ?_
  refine zp8_status hx hb g8 hown hw h_o0 q1 dX8_well_2 (fun H locs hw => ?_)
  obtain ⟨M4, e_M4⟩ : ∃ y : zM, y = va_up M o0 (upd (M o0) 0 (0 : Int32)) := ⟨_, rfl⟩
  rw [← e_M4] at hw
  have hq := hq M4 e_M4
  refine lv_iload_n hx hb dX8_well_5 rfl (lv_at hl 1 rfl) ?_
  exact z_iret hQE hx hb hr hlk hw dX8_well_6 ⟨hq, rfl⟩
theorem dX8_copies_0 : decode cX8_copies 0 = .ok (.iconst 0, 1) := by decide +kernel
theorem dX8_copies_1 : decode cX8_copies 1 = .ok (.istore 4, 2) := by decide +kernel
theorem dX8_copies_3 : decode cX8_copies 3 = .ok (.iload 4, 2) := by decide +kernel
theorem dX8_copies_5 : decode cX8_copies 5 = .ok (.bipush 50, 2) := by decide +kernel
theorem dX8_copies_7 : decode cX8_copies 7 = .ok (.if_icmp .ge 21, 3) := by decide +kernel
theorem dX8_copies_10 : decode cX8_copies 10 = .ok (.aload_n 2, 1) := by decide +kernel
theorem dX8_copies_11 : decode cX8_copies 11 = .ok (.iload_n 3, 1) := by decide +kernel
theorem dX8_copies_12 : decode cX8_copies 12 = .ok (.iload 4, 2) := by decide +kernel
theorem dX8_copies_14 : decode cX8_copies 14 = .ok (.iadd, 1) := by decide +kernel
theorem dX8_copies_15 : decode cX8_copies 15 = .ok (.aload_n 0, 1) := by decide +kernel
theorem dX8_copies_16 : decode cX8_copies 16 = .ok (.iload_n 1, 1) := by decide +kernel
theorem dX8_copies_17 : decode cX8_copies 17 = .ok (.iload 4, 2) := by decide +kernel
theorem dX8_copies_19 : decode cX8_copies 19 = .ok (.iadd, 1) := by decide +kernel
theorem dX8_copies_20 : decode cX8_copies 20 = .ok (.iaload, 1) := by decide +kernel
theorem dX8_copies_21 : decode cX8_copies 21 = .ok (.iastore, 1) := by decide +kernel
theorem dX8_copies_22 : decode cX8_copies 22 = .ok (.iinc 4 1, 3) := by decide +kernel
theorem dX8_copies_25 : decode cX8_copies 25 = .ok (.goto (-22), 3) := by decide +kernel
theorem dX8_copies_28 : decode cX8_copies 28 = .ok (.return_, 1) := by decide +kernel
def rmX8_copies : Room := { frames := 0, cells := 0, slots := 0, locals := 0 }
def lpX8_copies_3 (o0 : Nat) (n0 : Nat) (x1 : Int32) (o2 : Nat) (n2 : Nat) (x3 : Int32) (Q : zM → Prop) : Nat → Int32 → zM → Prop
  | 0, _, _ => False
  | fu3 + 1, x6, M7 =>
    (((50 : Int32) ≤ x6) → (
    Q M7)) ∧
    ((¬ (50 : Int32) ≤ x6) → (
    vp_in (x1 + x6) n0 ∧
    vp_in (x3 + x6) n2 ∧
    ∀ M8 : zM, M8 = va_up M7 o2 (upd (M7 o2) (x3 + x6).toNatClampNeg (M7 o0 (x1 + x6).toNatClampNeg)) →
    ∀ x9 : Int32, x9 = x6 + (1 : Int32) →
    lpX8_copies_3 o0 n0 x1 o2 n2 x3 Q fu3 x9 M8))
def wX8_copies (M : zM) (o0 : Nat) (n0 : Nat) (x1 : Int32) (o2 : Nat) (n2 : Nat) (x3 : Int32) (Q : zM → Prop) : Prop :=
    ∃ fu3 : Nat, lpX8_copies_3 o0 n0 x1 o2 n2 x3 Q fu3 (0 : Int32) M
set_option maxHeartbeats 4000000 in
set_option maxRecDepth 100000 in
theorem kX8_copies {l : Launch} {D : va_G} {Y : zY} {ad kd : Nat → Nat} {RL : List Nat} {M : zM} {J : zL} {o0 n0 : Nat} {x1 : Int32} {o2 n2 : Nat} {x3 : Int32} (h_o0 : kd o0 = 1000 + n0) (h_o2 : kd o2 = 1000 + n2) {Q : zM → Prop} (hq : wX8_copies M o0 n0 x1 o2 n2 x3 Q) : zCv l yX8_copies wsX8_copies rmX8_copies [.ref (ad o0), .int x1, .ref (ad o2), .int x3] D Y ad kd RL M J (fun M' J' => Q M' ∧ J = J') := by
  refine z_metv (cc := cX8_copies) (maxL := 5) (ret := none) (by decide) rfl (Nat.le_of_ble_eq_true rfl) ?_
  intro p e s m below meth c ls A ar QE hQE hx hb hr hml hown hts hlk hw hl
  have hown : s.vm.findClass RX8 = some m.cls := hown
  have hl : lv_has ls 5 [(0, .ref (ad o0)), (1, .int x1), (2, .ref (ad o2)), (3, .int x3)] := hl
  have hC := hw.2.2.2.2.2.1
  unfold wX8_copies at hq
  refine lv_iconst (v := (0 : Int32)) hx hb dX8_copies_0 (by decide) ?_
  refine lv_istore (lv' := [(4, .int (0 : Int32)), (0, .ref (ad o0)), (1, .int x1), (2, .ref (ad o2)), (3, .int x3)]) hx hb dX8_copies_1 hl (by decide) rfl (fun ls hl => ?_)
  obtain ⟨fu3, hq⟩ := hq
  have lp3 : ∀ (fu3 : Nat) (x6 : Int32) (M7 : zM) (H : Heap) (locs : List Loc) (ls : Array Slot), lpX8_copies_3 o0 n0 x1 o2 n2 x3 Q fu3 x6 M7 → zH D Y ad kd RL M7 J A s.heap H locs s → lv_has ls 5 [(0, .ref (ad o0)), (1, .int x1), (2, .ref (ad o2)), (3, .int x3), (4, .int x6)] → W p l e rmX8_copies s m ar below meth c H locs 0 0 QE (F0 m 3 ls []) := by
    intro fu3
    induction fu3 with
    | zero => intro x6 M7 H locs ls hq; exact hq.elim
    | succ fu3 ih3 =>
      intro x6 M7 H locs ls hq hw hl
      unfold lpX8_copies_3 at hq
      refine lv_iload hx hb dX8_copies_3 (lv_at hl 4 rfl) ?_
      refine lv_bipush (v := (50 : Int32)) hx hb dX8_copies_5 (by decide) ?_
      refine lv_icmp_ge (tgt := 28) hx hb dX8_copies_7 (by decide) (fun hc => ?_) (fun hc => ?_)
      · have hq := hq.1 hc
        exact z_vret hQE hx hb hr hlk hw dX8_copies_28 ⟨hq, rfl⟩
      · have hq := hq.2 hc
        refine lv_aload_n hx hb dX8_copies_10 rfl (lv_at hl 2 rfl) ?_
        refine lv_iload_n hx hb dX8_copies_11 rfl (lv_at hl 3 rfl) ?_
        refine lv_iload hx hb dX8_copies_12 (lv_at hl 4 rfl) ?_
        refine lv_iadd hx hb dX8_copies_14 ?_
        refine lv_aload_n hx hb dX8_copies_15 rfl (lv_at hl 0 rfl) ?_
        refine lv_iload_n hx hb dX8_copies_16 rfl (lv_at hl 1 rfl) ?_
        refine lv_iload hx hb dX8_copies_17 (lv_at hl 4 rfl) ?_
        refine lv_iadd hx hb dX8_copies_19 ?_
        obtain ⟨hi, hq⟩ := hq
        refine z_iald (n := n0) hx hb hw h_o0 hi dX8_copies_20 ?_
        obtain ⟨hi, hq⟩ := hq
        refine z_iast (n := n2) hx hb hw h_o2 hi dX8_copies_21 (fun H locs hw => ?_)
        obtain ⟨M8, e_M8⟩ : ∃ y : zM, y = va_up M7 o2 (upd (M7 o2) (x3 + x6).toNatClampNeg (M7 o0 (x1 + x6).toNatClampNeg)) := ⟨_, rfl⟩
        rw [← e_M8] at hw
        have hq := hq M8 e_M8
        obtain ⟨x9, e_x9⟩ : ∃ y : Int32, y = x6 + (1 : Int32) := ⟨_, rfl⟩
        have hq := hq x9 e_x9
        refine lv_iinc (v := x9) (lv' := [(4, .int x9), (0, .ref (ad o0)), (1, .int x1), (2, .ref (ad o2)), (3, .int x3)]) hx hb dX8_copies_22 hl (k := 4) rfl (by rw [e_x9]; rfl) (by decide) rfl (fun ls hl => ?_)
        refine lv_goto (tgt := 3) hx hb dX8_copies_25 (by decide) ?_
        exact ih3 x9 M8 _ _ _ hq hw (lv_sub hl [1, 2, 3, 4, 0] rfl)
  exact lp3 fu3 (0 : Int32) M _ _ _ hq hw (lv_sub hl [1, 2, 3, 4, 0] rfl)
set_option maxRecDepth 20000 in
theorem ggX8_isRow_X8_in : GoodIn wsX8_isRow wsX8_in := goodIn_r _ [4] (by decide +kernel) (by decide +kernel)
set_option maxRecDepth 20000 in
theorem gX8_isRow_X8_in : GoodIn wsX8_isRow (va_wsS RX8 59 yX8_in wsX8_in) := goodIn_app (goodIn_of _ (by decide +kernel)) ggX8_isRow_X8_in
theorem dX8_isRow_0 : decode cX8_isRow 0 = .ok (.iload_n 0, 1) := by decide +kernel
theorem dX8_isRow_1 : decode cX8_isRow 1 = .ok (.iconst 0, 1) := by decide +kernel
theorem dX8_isRow_2 : decode cX8_isRow 2 = .ok (.bipush 7, 2) := by decide +kernel
theorem dX8_isRow_4 : decode cX8_isRow 4 = .ok (.invokestatic 59, 3) := by decide +kernel
theorem dX8_isRow_7 : decode cX8_isRow 7 = .ok (.ireturn, 1) := by decide +kernel
def rmX8_isRow : Room := { frames := 1, cells := 0, slots := 0, locals := 22 }
def wX8_isRow (M : zM) (x0 : Int32) (Q : Int32 → Prop) : Prop :=
    wX8_in M x0 (0 : Int32) (7 : Int32) (fun r3 =>
    narrow .boolean (.int r3) = .int r3 ∧
    Q r3)
set_option maxHeartbeats 4000000 in
set_option maxRecDepth 100000 in
theorem kX8_isRow {l : Launch} {D : va_G} {Y : zY} {ad kd : Nat → Nat} {RL : List Nat} {M : zM} {J : zL} {x0 : Int32}  {Q : Int32 → Prop} (hq : wX8_isRow M x0 Q) : zCi l yX8_isRow wsX8_isRow rmX8_isRow [.int x0] D Y ad kd RL M J (fun r M' J' => Q r ∧ M = M' ∧ J = J') := by
  refine z_meti (cc := cX8_isRow) (maxL := 1) (ret := (some .boolean)) (by decide) rfl (Nat.le_of_ble_eq_true rfl) ?_
  intro p e s m below meth c ls A ar QE hQE hx hb hr hml hown hts hlk hw hl
  have hown : s.vm.findClass RX8 = some m.cls := hown
  have hl : lv_has ls 1 [(0, .int x0)] := hl
  have hC := hw.2.2.2.2.2.1
  unfold wX8_isRow at hq
  refine lv_iload_n hx hb dX8_isRow_0 rfl (lv_at hl 0 rfl) ?_
  refine lv_iconst (v := (0 : Int32)) hx hb dX8_isRow_1 (by decide) ?_
  refine lv_bipush (v := (7 : Int32)) hx hb dX8_isRow_2 (by decide) ?_
  refine z_csi ⟨hx, hb, hml, hown, hts⟩ hw (kX8_in  hq) (va_cwS 3 hts gX8_isRow_X8_in rfl rfl rfl (by decide +kernel) ⟨Nat.le_of_ble_eq_true rfl, Nat.le_of_ble_eq_true rfl⟩) rfl hl.1 rfl (Nat.le_of_ble_eq_true rfl) dX8_isRow_4 ⟨Nat.zero_le _, Nat.zero_le _⟩ (fun r3 M0 J0 H locs hq hw => ?_)
  obtain ⟨hq, rfl, rfl⟩ := hq
  obtain ⟨hn, hq⟩ := hq
  exact z_zret hQE hx hb hr hlk hw dX8_isRow_7 hn ⟨hq, rfl, rfl⟩
theorem dX8_isMissing_0 : decode cX8_isMissing 0 = .ok (.aload_n 0, 1) := by decide +kernel
theorem dX8_isMissing_1 : decode cX8_isMissing 1 = .ok (.getfield 7, 3) := by decide +kernel
theorem dX8_isMissing_4 : decode cX8_isMissing 4 = .ok (.iload_n 1, 1) := by decide +kernel
theorem dX8_isMissing_5 : decode cX8_isMissing 5 = .ok (.iaload, 1) := by decide +kernel
theorem dX8_isMissing_6 : decode cX8_isMissing 6 = .ok (.ldc 53, 2) := by decide +kernel
theorem dX8_isMissing_8 : decode cX8_isMissing 8 = .ok (.if_icmp .ne 7, 3) := by decide +kernel
theorem dX8_isMissing_11 : decode cX8_isMissing 11 = .ok (.iconst 1, 1) := by decide +kernel
theorem dX8_isMissing_12 : decode cX8_isMissing 12 = .ok (.goto 4, 3) := by decide +kernel
theorem dX8_isMissing_15 : decode cX8_isMissing 15 = .ok (.iconst 0, 1) := by decide +kernel
theorem dX8_isMissing_16 : decode cX8_isMissing 16 = .ok (.ireturn, 1) := by decide +kernel
def rmX8_isMissing : Room := { frames := 0, cells := 0, slots := 0, locals := 0 }
def wX8_isMissing (M : zM) (o0 : Nat) (x1 : Int32) (Q : Int32 → Prop) : Prop :=
    vp_in x1 8 ∧
    ((¬ (M (o0 + 1) x1.toNatClampNeg) = (-1000000 : Int32)) → (
    Q (0 : Int32))) ∧
    (((M (o0 + 1) x1.toNatClampNeg) = (-1000000 : Int32)) → (
    Q (1 : Int32)))
set_option maxHeartbeats 4000000 in
set_option maxRecDepth 100000 in
theorem kX8_isMissing {l : Launch} {D : va_G} {Y : zY} {ad kd : Nat → Nat} {RL : List Nat} {M : zM} {J : zL} {o0 : Nat} {x1 : Int32} (h_o0 : kd o0 = 8) {Q : Int32 → Prop} (hq : wX8_isMissing M o0 x1 Q) : zCi l yX8_isMissing wsX8_isMissing rmX8_isMissing [.ref (ad o0), .int x1] D Y ad kd RL M J (fun r M' J' => Q r ∧ M = M' ∧ J = J') := by
  refine z_meti (cc := cX8_isMissing) (maxL := 2) (ret := (some .boolean)) (by decide) rfl (Nat.le_of_ble_eq_true rfl) ?_
  intro p e s m below meth c ls A ar QE hQE hx hb hr hml hown hts hlk hw hl
  have hown : s.vm.findClass RX8 = some m.cls := hown
  have hl : lv_has ls 2 [(0, .ref (ad o0)), (1, .int x1)] := hl
  have hC := hw.2.2.2.2.2.1
  have g8 : ∀ w ∈ wsX80, w.before ar s = true := (fun w h => hts w (List.mem_cons_of_mem _ (List.mem_append_right _ h)))
  have q1 := hts _ (List.mem_of_getElem? (i := 1) rfl)
  have q2 := hts _ (List.mem_of_getElem? (i := 2) rfl)
  unfold wX8_isMissing at hq
  refine lv_aload_n hx hb dX8_isMissing_0 rfl (lv_at hl 0 rfl) ?_
  refine zg8_lane hx hb g8 hown hw h_o0 q1 dX8_isMissing_1 ?_
  refine lv_iload_n hx hb dX8_isMissing_4 rfl (lv_at hl 1 rfl) ?_
  obtain ⟨hi, hq⟩ := hq
  refine z_iald (n := 8) hx hb hw (zk_8_1 hC h_o0) hi dX8_isMissing_5 ?_
  refine lv_ldc (v := (-1000000 : Int32)) hx hb hown q2 dX8_isMissing_6 ?_
  refine lv_icmp_ne (tgt := 15) hx hb dX8_isMissing_8 (by decide) (fun hc => ?_) (fun hc => ?_)
  · have hq := hq.1 hc
    refine lv_iconst (v := (0 : Int32)) hx hb dX8_isMissing_15 (by decide) ?_
    exact z_zret hQE hx hb hr hlk hw dX8_isMissing_16 (by decide) ⟨hq, rfl, rfl⟩
  · have hq := hq.2 hc
    refine lv_iconst (v := (1 : Int32)) hx hb dX8_isMissing_11 (by decide) ?_
    refine lv_goto (tgt := 16) hx hb dX8_isMissing_12 (by decide) ?_
    exact z_zret hQE hx hb hr hlk hw dX8_isMissing_16 (by decide) ⟨hq, rfl, rfl⟩
theorem dX8_lowest_0 : decode cX8_lowest 0 = .ok (.iload_n 0, 1) := by decide +kernel
theorem dX8_lowest_1 : decode cX8_lowest 1 = .ok (.ifCond .ne 13, 3) := by decide +kernel
theorem dX8_lowest_4 : decode cX8_lowest 4 = .ok (.iload_n 1, 1) := by decide +kernel
theorem dX8_lowest_5 : decode cX8_lowest 5 = .ok (.bipush 24, 2) := by decide +kernel
theorem dX8_lowest_7 : decode cX8_lowest 7 = .ok (.ishl, 1) := by decide +kernel
theorem dX8_lowest_8 : decode cX8_lowest 8 = .ok (.bipush 24, 2) := by decide +kernel
theorem dX8_lowest_10 : decode cX8_lowest 10 = .ok (.ishr, 1) := by decide +kernel
theorem dX8_lowest_11 : decode cX8_lowest 11 = .ok (.goto 19, 3) := by decide +kernel
theorem dX8_lowest_14 : decode cX8_lowest 14 = .ok (.iload_n 0, 1) := by decide +kernel
theorem dX8_lowest_15 : decode cX8_lowest 15 = .ok (.iconst 1, 1) := by decide +kernel
theorem dX8_lowest_16 : decode cX8_lowest 16 = .ok (.if_icmp .ne 13, 3) := by decide +kernel
theorem dX8_lowest_19 : decode cX8_lowest 19 = .ok (.iload_n 1, 1) := by decide +kernel
theorem dX8_lowest_20 : decode cX8_lowest 20 = .ok (.bipush 16, 2) := by decide +kernel
theorem dX8_lowest_22 : decode cX8_lowest 22 = .ok (.ishl, 1) := by decide +kernel
theorem dX8_lowest_23 : decode cX8_lowest 23 = .ok (.bipush 16, 2) := by decide +kernel
theorem dX8_lowest_25 : decode cX8_lowest 25 = .ok (.ishr, 1) := by decide +kernel
theorem dX8_lowest_26 : decode cX8_lowest 26 = .ok (.goto 4, 3) := by decide +kernel
theorem dX8_lowest_29 : decode cX8_lowest 29 = .ok (.iload_n 1, 1) := by decide +kernel
theorem dX8_lowest_30 : decode cX8_lowest 30 = .ok (.ireturn, 1) := by decide +kernel
def rmX8_lowest : Room := { frames := 0, cells := 0, slots := 0, locals := 0 }
def wX8_lowest (M : zM) (x0 : Int32) (x1 : Int32) (Q : Int32 → Prop) : Prop :=
    ((¬ x0 = 0) → (
    ((¬ x0 = (1 : Int32)) → (
    Q x1)) ∧
    ((x0 = (1 : Int32)) → (
    ∀ x4 : Int32, x4 = ((x1 <<< ((16 : Int32) &&& 31)) >>> ((16 : Int32) &&& 31)) →
    Q x4)))) ∧
    ((x0 = 0) → (
    ∀ x5 : Int32, x5 = ((x1 <<< ((24 : Int32) &&& 31)) >>> ((24 : Int32) &&& 31)) →
    Q x5))
set_option maxHeartbeats 4000000 in
set_option maxRecDepth 100000 in
theorem kX8_lowest {l : Launch} {D : va_G} {Y : zY} {ad kd : Nat → Nat} {RL : List Nat} {M : zM} {J : zL} {x0 : Int32} {x1 : Int32}  {Q : Int32 → Prop} (hq : wX8_lowest M x0 x1 Q) : zCi l yX8_lowest wsX8_lowest rmX8_lowest [.int x0, .int x1] D Y ad kd RL M J (fun r M' J' => Q r ∧ M = M' ∧ J = J') := by
  refine z_meti (cc := cX8_lowest) (maxL := 2) (ret := (some .int)) (by decide) rfl (Nat.le_of_ble_eq_true rfl) ?_
  intro p e s m below meth c ls A ar QE hQE hx hb hr hml hown hts hlk hw hl
  have hown : s.vm.findClass RX8 = some m.cls := hown
  have hl : lv_has ls 2 [(0, .int x0), (1, .int x1)] := hl
  have hC := hw.2.2.2.2.2.1
  unfold wX8_lowest at hq
  refine lv_iload_n hx hb dX8_lowest_0 rfl (lv_at hl 0 rfl) ?_
  refine lv_if_ne (tgt := 14) hx hb dX8_lowest_1 (by decide) (fun hc => ?_) (fun hc => ?_)
  · have hq := hq.1 hc
    refine lv_iload_n hx hb dX8_lowest_14 rfl (lv_at hl 0 rfl) ?_
    refine lv_iconst (v := (1 : Int32)) hx hb dX8_lowest_15 (by decide) ?_
    refine lv_icmp_ne (tgt := 29) hx hb dX8_lowest_16 (by decide) (fun hc => ?_) (fun hc => ?_)
    · have hq := hq.1 hc
      refine lv_iload_n hx hb dX8_lowest_29 rfl (lv_at hl 1 rfl) ?_
      exact z_iret hQE hx hb hr hlk hw dX8_lowest_30 ⟨hq, rfl, rfl⟩
    · have hq := hq.2 hc
      refine lv_iload_n hx hb dX8_lowest_19 rfl (lv_at hl 1 rfl) ?_
      refine lv_bipush (v := (16 : Int32)) hx hb dX8_lowest_20 (by decide) ?_
      refine lv_ishl hx hb dX8_lowest_22 ?_
      refine lv_bipush (v := (16 : Int32)) hx hb dX8_lowest_23 (by decide) ?_
      refine lv_ishr hx hb dX8_lowest_25 ?_
      refine lv_topi (fun x4 e_x4 => ?_)
      have hq := hq x4 e_x4
      refine lv_goto (tgt := 30) hx hb dX8_lowest_26 (by decide) ?_
      exact z_iret hQE hx hb hr hlk hw dX8_lowest_30 ⟨hq, rfl, rfl⟩
  · have hq := hq.2 hc
    refine lv_iload_n hx hb dX8_lowest_4 rfl (lv_at hl 1 rfl) ?_
    refine lv_bipush (v := (24 : Int32)) hx hb dX8_lowest_5 (by decide) ?_
    refine lv_ishl hx hb dX8_lowest_7 ?_
    refine lv_bipush (v := (24 : Int32)) hx hb dX8_lowest_8 (by decide) ?_
    refine lv_ishr hx hb dX8_lowest_10 ?_
    refine lv_topi (fun x5 e_x5 => ?_)
    have hq := hq x5 e_x5
    refine lv_goto (tgt := 30) hx hb dX8_lowest_11 (by decide) ?_
    exact z_iret hQE hx hb hr hlk hw dX8_lowest_30 ⟨hq, rfl, rfl⟩
set_option maxRecDepth 20000 in
theorem ggX8_row_X8_isRow : GoodIn wsX8_row wsX8_isRow := goodIn_r _ [8, 9, 10, 7, 11] (by decide +kernel) (by decide +kernel)
set_option maxRecDepth 20000 in
theorem gX8_row_X8_isRow : GoodIn wsX8_row (va_wsS RX8 63 yX8_isRow wsX8_isRow) := goodIn_app (goodIn_of _ (by decide +kernel)) ggX8_row_X8_isRow
set_option maxRecDepth 20000 in
theorem ggX8_row_X8_in : GoodIn wsX8_row wsX8_in := goodIn_r _ [11] (by decide +kernel) (by decide +kernel)
set_option maxRecDepth 20000 in
theorem gX8_row_X8_in : GoodIn wsX8_row (va_wsS RX8 59 yX8_in wsX8_in) := goodIn_app (goodIn_of _ (by decide +kernel)) ggX8_row_X8_in
set_option maxRecDepth 20000 in
theorem ggX8_row_X8_found : GoodIn wsX8_row wsX8_found := goodIn_r _ [15, 16, 17, 22, 23, 24, 25, 26, 27, 28, 29, 30, 31, 32, 33, 34, 35, 36, 37, 38, 39, 40, 41, 42, 43, 44, 45, 46, 47] (by decide +kernel) (by decide +kernel)
set_option maxRecDepth 20000 in
theorem gX8_row_X8_found : GoodIn wsX8_row (wsV RX8 68 RX8 yX8_found wsX8_found) := goodIn_app (goodIn_of _ (by decide +kernel)) ggX8_row_X8_found
set_option maxRecDepth 20000 in
theorem ggX8_row_X8_well : GoodIn wsX8_row wsX8_well := goodIn_r _ [21, 16, 22, 23, 24, 25, 26, 27, 28, 29, 30, 31, 32, 33, 34, 35, 36, 37, 38, 39, 40, 41, 42, 43, 44, 45, 46, 47] (by decide +kernel) (by decide +kernel)
set_option maxRecDepth 20000 in
theorem gX8_row_X8_well : GoodIn wsX8_row (wsV RX8 72 RX8 yX8_well wsX8_well) := goodIn_app (goodIn_of _ (by decide +kernel)) ggX8_row_X8_well
theorem dX8_row_0 : decode cX8_row 0 = .ok (.iload_n 1, 1) := by decide +kernel
theorem dX8_row_1 : decode cX8_row 1 = .ok (.invokestatic 63, 3) := by decide +kernel
theorem dX8_row_4 : decode cX8_row 4 = .ok (.ifCond .eq 18, 3) := by decide +kernel
theorem dX8_row_7 : decode cX8_row 7 = .ok (.iload_n 2, 1) := by decide +kernel
theorem dX8_row_8 : decode cX8_row 8 = .ok (.iconst 0, 1) := by decide +kernel
theorem dX8_row_9 : decode cX8_row 9 = .ok (.iconst 2, 1) := by decide +kernel
theorem dX8_row_10 : decode cX8_row 10 = .ok (.invokestatic 59, 3) := by decide +kernel
theorem dX8_row_13 : decode cX8_row 13 = .ok (.ifCond .eq 9, 3) := by decide +kernel
theorem dX8_row_16 : decode cX8_row 16 = .ok (.iload_n 3, 1) := by decide +kernel
theorem dX8_row_17 : decode cX8_row 17 = .ok (.bipush 40, 2) := by decide +kernel
theorem dX8_row_19 : decode cX8_row 19 = .ok (.if_icmp .le 6, 3) := by decide +kernel
theorem dX8_row_22 : decode cX8_row 22 = .ok (.ldc 67, 2) := by decide +kernel
theorem dX8_row_24 : decode cX8_row 24 = .ok (.ireturn, 1) := by decide +kernel
theorem dX8_row_25 : decode cX8_row 25 = .ok (.iload_n 3, 1) := by decide +kernel
theorem dX8_row_26 : decode cX8_row 26 = .ok (.ifCond .ge 9, 3) := by decide +kernel
theorem dX8_row_29 : decode cX8_row 29 = .ok (.aload_n 0, 1) := by decide +kernel
theorem dX8_row_30 : decode cX8_row 30 = .ok (.iconst 4, 1) := by decide +kernel
theorem dX8_row_31 : decode cX8_row 31 = .ok (.invokevirtual 68, 3) := by decide +kernel
theorem dX8_row_34 : decode cX8_row 34 = .ok (.ireturn, 1) := by decide +kernel
theorem dX8_row_35 : decode cX8_row 35 = .ok (.aload_n 0, 1) := by decide +kernel
theorem dX8_row_36 : decode cX8_row 36 = .ok (.getfield 7, 3) := by decide +kernel
theorem dX8_row_39 : decode cX8_row 39 = .ok (.iload_n 1, 1) := by decide +kernel
theorem dX8_row_40 : decode cX8_row 40 = .ok (.iload_n 2, 1) := by decide +kernel
theorem dX8_row_41 : decode cX8_row 41 = .ok (.iastore, 1) := by decide +kernel
theorem dX8_row_42 : decode cX8_row 42 = .ok (.aload_n 0, 1) := by decide +kernel
theorem dX8_row_43 : decode cX8_row 43 = .ok (.getfield 13, 3) := by decide +kernel
theorem dX8_row_46 : decode cX8_row 46 = .ok (.iload_n 1, 1) := by decide +kernel
theorem dX8_row_47 : decode cX8_row 47 = .ok (.iload_n 3, 1) := by decide +kernel
theorem dX8_row_48 : decode cX8_row 48 = .ok (.iastore, 1) := by decide +kernel
theorem dX8_row_49 : decode cX8_row 49 = .ok (.iconst 0, 1) := by decide +kernel
theorem dX8_row_50 : decode cX8_row 50 = .ok (.istore 4, 2) := by decide +kernel
theorem dX8_row_52 : decode cX8_row 52 = .ok (.iload 4, 2) := by decide +kernel
theorem dX8_row_54 : decode cX8_row 54 = .ok (.bipush 40, 2) := by decide +kernel
theorem dX8_row_56 : decode cX8_row 56 = .ok (.if_icmp .ge 22, 3) := by decide +kernel
theorem dX8_row_59 : decode cX8_row 59 = .ok (.aload_n 0, 1) := by decide +kernel
theorem dX8_row_60 : decode cX8_row 60 = .ok (.getfield 16, 3) := by decide +kernel
theorem dX8_row_63 : decode cX8_row 63 = .ok (.bipush 40, 2) := by decide +kernel
theorem dX8_row_65 : decode cX8_row 65 = .ok (.iload_n 1, 1) := by decide +kernel
theorem dX8_row_66 : decode cX8_row 66 = .ok (.imul, 1) := by decide +kernel
theorem dX8_row_67 : decode cX8_row 67 = .ok (.iload 4, 2) := by decide +kernel
theorem dX8_row_69 : decode cX8_row 69 = .ok (.iadd, 1) := by decide +kernel
theorem dX8_row_70 : decode cX8_row 70 = .ok (.iconst 0, 1) := by decide +kernel
theorem dX8_row_71 : decode cX8_row 71 = .ok (.iastore, 1) := by decide +kernel
theorem dX8_row_72 : decode cX8_row 72 = .ok (.iinc 4 1, 3) := by decide +kernel
theorem dX8_row_75 : decode cX8_row 75 = .ok (.goto (-23), 3) := by decide +kernel
theorem dX8_row_78 : decode cX8_row 78 = .ok (.aload_n 0, 1) := by decide +kernel
theorem dX8_row_79 : decode cX8_row 79 = .ok (.iload_n 3, 1) := by decide +kernel
theorem dX8_row_80 : decode cX8_row 80 = .ok (.invokevirtual 72, 3) := by decide +kernel
theorem dX8_row_83 : decode cX8_row 83 = .ok (.ireturn, 1) := by decide +kernel
def rmX8_row : Room := { frames := 2, cells := 0, slots := 0, locals := 42 }
def lpX8_row_52 (o0 : Nat) (x1 : Int32) (x3 : Int32) (Q : Int32 → zM → Prop) : Nat → Int32 → zM → Prop
  | 0, _, _ => False
  | fu52 + 1, x10, M11 =>
    (((40 : Int32) ≤ x10) → (
    wX8_well M11 o0 x3 (fun r12 M13 =>
    Q r12 M13))) ∧
    ((¬ (40 : Int32) ≤ x10) → (
    vp_in (((40 : Int32) * x1) + x10) 320 ∧
    ∀ M14 : zM, M14 = va_up M11 (o0 + 3) (upd (M11 (o0 + 3)) (((40 : Int32) * x1) + x10).toNatClampNeg (0 : Int32)) →
    ∀ x15 : Int32, x15 = x10 + (1 : Int32) →
    lpX8_row_52 o0 x1 x3 Q fu52 x15 M14))
def wX8_row (M : zM) (o0 : Nat) (x1 : Int32) (x2 : Int32) (x3 : Int32) (Q : Int32 → zM → Prop) : Prop :=
    wX8_isRow M x1 (fun r6 =>
    ((r6 = 0) → (
    Q (-1000001 : Int32) M)) ∧
    ((¬ r6 = 0) → (
    wX8_in M x2 (0 : Int32) (2 : Int32) (fun r7 =>
    ((r7 = 0) → (
    Q (-1000001 : Int32) M)) ∧
    ((¬ r7 = 0) → (
    ((x3 ≤ (40 : Int32)) → (
    ((0 ≤ x3) → (
    vp_in x1 8 ∧
    ∀ M8 : zM, M8 = va_up M (o0 + 1) (upd (M (o0 + 1)) x1.toNatClampNeg x2) →
    vp_in x1 8 ∧
    ∀ M9 : zM, M9 = va_up M8 (o0 + 2) (upd (M8 (o0 + 2)) x1.toNatClampNeg x3) →
    ∃ fu52 : Nat, lpX8_row_52 o0 x1 x3 Q fu52 (0 : Int32) M9)) ∧
    ((¬ 0 ≤ x3) → (
    wX8_found M o0 (4 : Int32) (fun r16 M17 =>
    Q r16 M17))))) ∧
    ((¬ x3 ≤ (40 : Int32)) → (
    Q (-1000001 : Int32) M))))))))
set_option maxHeartbeats 4000000 in
set_option maxRecDepth 100000 in
theorem kX8_row {l : Launch} {D : va_G} {Y : zY} {ad kd : Nat → Nat} {RL : List Nat} {M : zM} {J : zL} {o0 : Nat} {x1 : Int32} {x2 : Int32} {x3 : Int32} (h_o0 : kd o0 = 8) {Q : Int32 → zM → Prop} (hq : wX8_row M o0 x1 x2 x3 Q) : zCi l yX8_row wsX8_row rmX8_row [.ref (ad o0), .int x1, .int x2, .int x3] D Y ad kd RL M J (fun r M' J' => Q r M' ∧ J = J') := by
  refine z_meti (cc := cX8_row) (maxL := 5) (ret := (some .int)) (by decide) rfl (Nat.le_of_ble_eq_true rfl) ?_
  intro p e s m below meth c ls A ar QE hQE hx hb hr hml hown hts hlk hw hl
  have hown : s.vm.findClass RX8 = some m.cls := hown
  have hl : lv_has ls 5 [(0, .ref (ad o0)), (1, .int x1), (2, .int x2), (3, .int x3)] := hl
  have hC := hw.2.2.2.2.2.1
  have g8 : ∀ w ∈ wsX80, w.before ar s = true := (fun w h => hts w (List.mem_cons_of_mem _ (List.mem_append_right _ h)))
  have q1 := hts _ (List.mem_of_getElem? (i := 1) rfl)
  have q2 := hts _ (List.mem_of_getElem? (i := 2) rfl)
  have q3 := hts _ (List.mem_of_getElem? (i := 3) rfl)
  have q4 := hts _ (List.mem_of_getElem? (i := 4) rfl)
  unfold wX8_row at hq
  refine lv_iload_n hx hb dX8_row_0 rfl (lv_at hl 1 rfl) ?_
  refine z_csi ⟨hx, hb, hml, hown, hts⟩ hw (kX8_isRow  hq) (va_cwS 1 hts gX8_row_X8_isRow rfl rfl rfl (by decide +kernel) ⟨Nat.le_of_ble_eq_true rfl, Nat.le_of_ble_eq_true rfl⟩) rfl hl.1 rfl (Nat.le_of_ble_eq_true rfl) dX8_row_1 ⟨Nat.zero_le _, Nat.zero_le _⟩ (fun r6 M0 J0 H locs hq hw => ?_)
  obtain ⟨hq, rfl, rfl⟩ := hq
  refine lv_if_eq (tgt := 22) hx hb dX8_row_4 (by decide) (fun hc => ?_) (fun hc => ?_)
  · have hq := hq.1 hc
    refine lv_ldc (v := (-1000001 : Int32)) hx hb hown q1 dX8_row_22 ?_
    exact z_iret hQE hx hb hr hlk hw dX8_row_24 ⟨hq, rfl⟩
  · have hq := hq.2 hc
    refine lv_iload_n hx hb dX8_row_7 rfl (lv_at hl 2 rfl) ?_
    refine lv_iconst (v := (0 : Int32)) hx hb dX8_row_8 (by decide) ?_
    refine lv_iconst (v := (2 : Int32)) hx hb dX8_row_9 (by decide) ?_
    refine z_csi ⟨hx, hb, hml, hown, hts⟩ hw (kX8_in  hq) (va_cwS 3 hts gX8_row_X8_in rfl rfl rfl (by decide +kernel) ⟨Nat.le_of_ble_eq_true rfl, Nat.le_of_ble_eq_true rfl⟩) rfl hl.1 rfl (Nat.le_of_ble_eq_true rfl) dX8_row_10 ⟨Nat.zero_le _, Nat.zero_le _⟩ (fun r7 M0 J0 H locs hq hw => ?_)
    obtain ⟨hq, rfl, rfl⟩ := hq
    refine lv_if_eq (tgt := 22) hx hb dX8_row_13 (by decide) (fun hc => ?_) (fun hc => ?_)
    · have hq := hq.1 hc
      refine lv_ldc (v := (-1000001 : Int32)) hx hb hown q1 dX8_row_22 ?_
      exact z_iret hQE hx hb hr hlk hw dX8_row_24 ⟨hq, rfl⟩
    · have hq := hq.2 hc
      refine lv_iload_n hx hb dX8_row_16 rfl (lv_at hl 3 rfl) ?_
      refine lv_bipush (v := (40 : Int32)) hx hb dX8_row_17 (by decide) ?_
      refine lv_icmp_le (tgt := 25) hx hb dX8_row_19 (by decide) (fun hc => ?_) (fun hc => ?_)
      · have hq := hq.1 hc
        refine lv_iload_n hx hb dX8_row_25 rfl (lv_at hl 3 rfl) ?_
        refine lv_if_ge (tgt := 35) hx hb dX8_row_26 (by decide) (fun hc => ?_) (fun hc => ?_)
        · have hq := hq.1 hc
          refine lv_aload_n hx hb dX8_row_35 rfl (lv_at hl 0 rfl) ?_
          refine zg8_lane hx hb g8 hown hw h_o0 q2 dX8_row_36 ?_
          refine lv_iload_n hx hb dX8_row_39 rfl (lv_at hl 1 rfl) ?_
          refine lv_iload_n hx hb dX8_row_40 rfl (lv_at hl 2 rfl) ?_
          obtain ⟨hi, hq⟩ := hq
          refine z_iast (n := 8) hx hb hw (zk_8_1 hC h_o0) hi dX8_row_41 (fun H locs hw => ?_)
          obtain ⟨M8, e_M8⟩ : ∃ y : zM, y = va_up M (o0 + 1) (upd (M (o0 + 1)) x1.toNatClampNeg x2) := ⟨_, rfl⟩
          rw [← e_M8] at hw
          have hq := hq M8 e_M8
          refine lv_aload_n hx hb dX8_row_42 rfl (lv_at hl 0 rfl) ?_
          refine zg8_many hx hb g8 hown hw h_o0 q3 dX8_row_43 ?_
          refine lv_iload_n hx hb dX8_row_46 rfl (lv_at hl 1 rfl) ?_
          refine lv_iload_n hx hb dX8_row_47 rfl (lv_at hl 3 rfl) ?_
          obtain ⟨hi, hq⟩ := hq
          refine z_iast (n := 8) hx hb hw (zk_8_2 hC h_o0) hi dX8_row_48 (fun H locs hw => ?_)
          obtain ⟨M9, e_M9⟩ : ∃ y : zM, y = va_up M8 (o0 + 2) (upd (M8 (o0 + 2)) x1.toNatClampNeg x3) := ⟨_, rfl⟩
          rw [← e_M9] at hw
          have hq := hq M9 e_M9
          refine lv_iconst (v := (0 : Int32)) hx hb dX8_row_49 (by decide) ?_
          refine lv_istore (lv' := [(4, .int (0 : Int32)), (0, .ref (ad o0)), (1, .int x1), (2, .int x2), (3, .int x3)]) hx hb dX8_row_50 hl (by decide) rfl (fun ls hl => ?_)
          obtain ⟨fu52, hq⟩ := hq
          have lp52 : ∀ (fu52 : Nat) (x10 : Int32) (M11 : zM) (H : Heap) (locs : List Loc) (ls : Array Slot), lpX8_row_52 o0 x1 x3 Q fu52 x10 M11 → zH D Y ad kd RL M11 J A s.heap H locs s → lv_has ls 5 [(0, .ref (ad o0)), (1, .int x1), (3, .int x3), (4, .int x10)] → W p l e rmX8_row s m ar below meth c H locs 0 0 QE (F0 m 52 ls []) := by
            intro fu52
            induction fu52 with
            | zero => intro x10 M11 H locs ls hq; exact hq.elim
            | succ fu52 ih52 =>
              intro x10 M11 H locs ls hq hw hl
              unfold lpX8_row_52 at hq
              refine lv_iload hx hb dX8_row_52 (lv_at hl 3 rfl) ?_
              refine lv_bipush (v := (40 : Int32)) hx hb dX8_row_54 (by decide) ?_
              refine lv_icmp_ge (tgt := 78) hx hb dX8_row_56 (by decide) (fun hc => ?_) (fun hc => ?_)
              · have hq := hq.1 hc
                refine lv_aload_n hx hb dX8_row_78 rfl (lv_at hl 0 rfl) ?_
                refine lv_iload_n hx hb dX8_row_79 rfl (lv_at hl 2 rfl) ?_
                refine z_cvi ⟨hx, hb, hml, hown, hts⟩ hw h_o0 (kX8_well h_o0 hq) (by decide) rfl (cwV 1 hts gX8_row_X8_well rfl rfl rfl (by decide +kernel) ⟨Nat.le_of_ble_eq_true rfl, Nat.le_of_ble_eq_true rfl⟩) rfl hl.1 rfl (Nat.le_of_ble_eq_true rfl) dX8_row_80 ⟨Nat.zero_le _, Nat.zero_le _⟩ (fun r12 M13 J0 H locs hq hw => ?_)
                obtain ⟨hq, rfl⟩ := hq
                exact z_iret hQE hx hb hr hlk hw dX8_row_83 ⟨hq, rfl⟩
              · have hq := hq.2 hc
                refine lv_aload_n hx hb dX8_row_59 rfl (lv_at hl 0 rfl) ?_
                refine zg8_items hx hb g8 hown hw h_o0 q4 dX8_row_60 ?_
                refine lv_bipush (v := (40 : Int32)) hx hb dX8_row_63 (by decide) ?_
                refine lv_iload_n hx hb dX8_row_65 rfl (lv_at hl 1 rfl) ?_
                refine lv_imul hx hb dX8_row_66 ?_
                refine lv_iload hx hb dX8_row_67 (lv_at hl 3 rfl) ?_
                refine lv_iadd hx hb dX8_row_69 ?_
                refine lv_iconst (v := (0 : Int32)) hx hb dX8_row_70 (by decide) ?_
                obtain ⟨hi, hq⟩ := hq
                refine z_iast (n := 320) hx hb hw (zk_8_3 hC h_o0) hi dX8_row_71 (fun H locs hw => ?_)
                obtain ⟨M14, e_M14⟩ : ∃ y : zM, y = va_up M11 (o0 + 3) (upd (M11 (o0 + 3)) (((40 : Int32) * x1) + x10).toNatClampNeg (0 : Int32)) := ⟨_, rfl⟩
                rw [← e_M14] at hw
                have hq := hq M14 e_M14
                obtain ⟨x15, e_x15⟩ : ∃ y : Int32, y = x10 + (1 : Int32) := ⟨_, rfl⟩
                have hq := hq x15 e_x15
                refine lv_iinc (v := x15) (lv' := [(4, .int x15), (0, .ref (ad o0)), (1, .int x1), (3, .int x3)]) hx hb dX8_row_72 hl (k := 3) rfl (by rw [e_x15]; rfl) (by decide) rfl (fun ls hl => ?_)
                refine lv_goto (tgt := 52) hx hb dX8_row_75 (by decide) ?_
                exact ih52 x15 M14 _ _ _ hq hw (lv_sub hl [1, 2, 3, 0] rfl)
          exact lp52 fu52 (0 : Int32) M9 _ _ _ hq hw (lv_sub hl [1, 2, 4, 0] rfl)
        · have hq := hq.2 hc
          refine lv_aload_n hx hb dX8_row_29 rfl (lv_at hl 0 rfl) ?_
          refine lv_iconst (v := (4 : Int32)) hx hb dX8_row_30 (by decide) ?_
          refine z_cvi ⟨hx, hb, hml, hown, hts⟩ hw h_o0 (kX8_found h_o0 hq) (by decide) rfl (cwV 1 hts gX8_row_X8_found rfl rfl rfl (by decide +kernel) ⟨Nat.le_of_ble_eq_true rfl, Nat.le_of_ble_eq_true rfl⟩) rfl hl.1 rfl (Nat.le_of_ble_eq_true rfl) dX8_row_31 ⟨Nat.zero_le _, Nat.zero_le _⟩ (fun r16 M17 J0 H locs hq hw => ?_)
          obtain ⟨hq, rfl⟩ := hq
          exact z_iret hQE hx hb hr hlk hw dX8_row_34 ⟨hq, rfl⟩
      · have hq := hq.2 hc
        refine lv_ldc (v := (-1000001 : Int32)) hx hb hown q1 dX8_row_22 ?_
        exact z_iret hQE hx hb hr hlk hw dX8_row_24 ⟨hq, rfl⟩
set_option maxRecDepth 20000 in
theorem ggX8_set_X8_isRow : GoodIn wsX8_set wsX8_isRow := goodIn_r _ [8, 9, 10, 7, 11] (by decide +kernel) (by decide +kernel)
set_option maxRecDepth 20000 in
theorem gX8_set_X8_isRow : GoodIn wsX8_set (va_wsS RX8 63 yX8_isRow wsX8_isRow) := goodIn_app (goodIn_of _ (by decide +kernel)) ggX8_set_X8_isRow
set_option maxRecDepth 20000 in
theorem ggX8_set_X8_isMissing : GoodIn wsX8_set wsX8_isMissing := goodIn_r _ [15, 4, 16, 30, 31, 32, 33, 34, 35, 36, 37, 38, 39, 40, 41, 42, 43, 44, 45, 46, 47, 48, 49, 50, 51, 52, 53, 54, 55] (by decide +kernel) (by decide +kernel)
set_option maxRecDepth 20000 in
theorem gX8_set_X8_isMissing : GoodIn wsX8_set (wsV RX8 75 RX8 yX8_isMissing wsX8_isMissing) := goodIn_app (goodIn_of _ (by decide +kernel)) ggX8_set_X8_isMissing
set_option maxRecDepth 20000 in
theorem ggX8_set_X8_found : GoodIn wsX8_set wsX8_found := goodIn_r _ [20, 21, 22, 30, 31, 32, 33, 34, 35, 36, 37, 38, 39, 40, 41, 42, 43, 44, 45, 46, 47, 48, 49, 50, 51, 52, 53, 54, 55] (by decide +kernel) (by decide +kernel)
set_option maxRecDepth 20000 in
theorem gX8_set_X8_found : GoodIn wsX8_set (wsV RX8 68 RX8 yX8_found wsX8_found) := goodIn_app (goodIn_of _ (by decide +kernel)) ggX8_set_X8_found
set_option maxRecDepth 20000 in
theorem ggX8_set_X8_in : GoodIn wsX8_set wsX8_in := goodIn_r _ [11] (by decide +kernel) (by decide +kernel)
set_option maxRecDepth 20000 in
theorem gX8_set_X8_in : GoodIn wsX8_set (va_wsS RX8 59 yX8_in wsX8_in) := goodIn_app (goodIn_of _ (by decide +kernel)) ggX8_set_X8_in
set_option maxRecDepth 20000 in
theorem ggX8_set_X8_lowest : GoodIn wsX8_set wsX8_lowest := goodIn_r _ [25] (by decide +kernel) (by decide +kernel)
set_option maxRecDepth 20000 in
theorem gX8_set_X8_lowest : GoodIn wsX8_set (va_wsS RX8 78 yX8_lowest wsX8_lowest) := goodIn_app (goodIn_of _ (by decide +kernel)) ggX8_set_X8_lowest
set_option maxRecDepth 20000 in
theorem ggX8_set_X8_well : GoodIn wsX8_set wsX8_well := goodIn_r _ [29, 21, 30, 31, 32, 33, 34, 35, 36, 37, 38, 39, 40, 41, 42, 43, 44, 45, 46, 47, 48, 49, 50, 51, 52, 53, 54, 55] (by decide +kernel) (by decide +kernel)
set_option maxRecDepth 20000 in
theorem gX8_set_X8_well : GoodIn wsX8_set (wsV RX8 72 RX8 yX8_well wsX8_well) := goodIn_app (goodIn_of _ (by decide +kernel)) ggX8_set_X8_well
theorem dX8_set_0 : decode cX8_set 0 = .ok (.iload_n 1, 1) := by decide +kernel
theorem dX8_set_1 : decode cX8_set 1 = .ok (.invokestatic 63, 3) := by decide +kernel
theorem dX8_set_4 : decode cX8_set 4 = .ok (.ifCond .ne 6, 3) := by decide +kernel
theorem dX8_set_7 : decode cX8_set 7 = .ok (.ldc 67, 2) := by decide +kernel
theorem dX8_set_9 : decode cX8_set 9 = .ok (.ireturn, 1) := by decide +kernel
theorem dX8_set_10 : decode cX8_set 10 = .ok (.aload_n 0, 1) := by decide +kernel
theorem dX8_set_11 : decode cX8_set 11 = .ok (.iload_n 1, 1) := by decide +kernel
theorem dX8_set_12 : decode cX8_set 12 = .ok (.invokevirtual 75, 3) := by decide +kernel
theorem dX8_set_15 : decode cX8_set 15 = .ok (.ifCond .eq 9, 3) := by decide +kernel
theorem dX8_set_18 : decode cX8_set 18 = .ok (.aload_n 0, 1) := by decide +kernel
theorem dX8_set_19 : decode cX8_set 19 = .ok (.iconst 1, 1) := by decide +kernel
theorem dX8_set_20 : decode cX8_set 20 = .ok (.invokevirtual 68, 3) := by decide +kernel
theorem dX8_set_23 : decode cX8_set 23 = .ok (.ireturn, 1) := by decide +kernel
theorem dX8_set_24 : decode cX8_set 24 = .ok (.iload_n 2, 1) := by decide +kernel
theorem dX8_set_25 : decode cX8_set 25 = .ok (.iconst 0, 1) := by decide +kernel
theorem dX8_set_26 : decode cX8_set 26 = .ok (.aload_n 0, 1) := by decide +kernel
theorem dX8_set_27 : decode cX8_set 27 = .ok (.getfield 13, 3) := by decide +kernel
theorem dX8_set_30 : decode cX8_set 30 = .ok (.iload_n 1, 1) := by decide +kernel
theorem dX8_set_31 : decode cX8_set 31 = .ok (.iaload, 1) := by decide +kernel
theorem dX8_set_32 : decode cX8_set 32 = .ok (.iconst 1, 1) := by decide +kernel
theorem dX8_set_33 : decode cX8_set 33 = .ok (.isub, 1) := by decide +kernel
theorem dX8_set_34 : decode cX8_set 34 = .ok (.invokestatic 59, 3) := by decide +kernel
theorem dX8_set_37 : decode cX8_set 37 = .ok (.ifCond .ne 9, 3) := by decide +kernel
theorem dX8_set_40 : decode cX8_set 40 = .ok (.aload_n 0, 1) := by decide +kernel
theorem dX8_set_41 : decode cX8_set 41 = .ok (.iconst 2, 1) := by decide +kernel
theorem dX8_set_42 : decode cX8_set 42 = .ok (.invokevirtual 68, 3) := by decide +kernel
theorem dX8_set_45 : decode cX8_set 45 = .ok (.ireturn, 1) := by decide +kernel
theorem dX8_set_46 : decode cX8_set 46 = .ok (.aload_n 0, 1) := by decide +kernel
theorem dX8_set_47 : decode cX8_set 47 = .ok (.getfield 16, 3) := by decide +kernel
theorem dX8_set_50 : decode cX8_set 50 = .ok (.bipush 40, 2) := by decide +kernel
theorem dX8_set_52 : decode cX8_set 52 = .ok (.iload_n 1, 1) := by decide +kernel
theorem dX8_set_53 : decode cX8_set 53 = .ok (.imul, 1) := by decide +kernel
theorem dX8_set_54 : decode cX8_set 54 = .ok (.iload_n 2, 1) := by decide +kernel
theorem dX8_set_55 : decode cX8_set 55 = .ok (.iadd, 1) := by decide +kernel
theorem dX8_set_56 : decode cX8_set 56 = .ok (.aload_n 0, 1) := by decide +kernel
theorem dX8_set_57 : decode cX8_set 57 = .ok (.getfield 7, 3) := by decide +kernel
theorem dX8_set_60 : decode cX8_set 60 = .ok (.iload_n 1, 1) := by decide +kernel
theorem dX8_set_61 : decode cX8_set 61 = .ok (.iaload, 1) := by decide +kernel
theorem dX8_set_62 : decode cX8_set 62 = .ok (.iload_n 3, 1) := by decide +kernel
theorem dX8_set_63 : decode cX8_set 63 = .ok (.invokestatic 78, 3) := by decide +kernel
theorem dX8_set_66 : decode cX8_set 66 = .ok (.iastore, 1) := by decide +kernel
theorem dX8_set_67 : decode cX8_set 67 = .ok (.aload_n 0, 1) := by decide +kernel
theorem dX8_set_68 : decode cX8_set 68 = .ok (.aload_n 0, 1) := by decide +kernel
theorem dX8_set_69 : decode cX8_set 69 = .ok (.getfield 16, 3) := by decide +kernel
theorem dX8_set_72 : decode cX8_set 72 = .ok (.bipush 40, 2) := by decide +kernel
theorem dX8_set_74 : decode cX8_set 74 = .ok (.iload_n 1, 1) := by decide +kernel
theorem dX8_set_75 : decode cX8_set 75 = .ok (.imul, 1) := by decide +kernel
theorem dX8_set_76 : decode cX8_set 76 = .ok (.iload_n 2, 1) := by decide +kernel
theorem dX8_set_77 : decode cX8_set 77 = .ok (.iadd, 1) := by decide +kernel
theorem dX8_set_78 : decode cX8_set 78 = .ok (.iaload, 1) := by decide +kernel
theorem dX8_set_79 : decode cX8_set 79 = .ok (.invokevirtual 72, 3) := by decide +kernel
theorem dX8_set_82 : decode cX8_set 82 = .ok (.ireturn, 1) := by decide +kernel
def rmX8_set : Room := { frames := 2, cells := 0, slots := 0, locals := 42 }
def wX8_set (M : zM) (o0 : Nat) (x1 : Int32) (x2 : Int32) (x3 : Int32) (Q : Int32 → zM → Prop) : Prop :=
    wX8_isRow M x1 (fun r6 =>
    ((¬ r6 = 0) → (
    wX8_isMissing M o0 x1 (fun r7 =>
    ((r7 = 0) → (
    vp_in x1 8 ∧
    wX8_in M x2 (0 : Int32) ((M (o0 + 2) x1.toNatClampNeg) - (1 : Int32)) (fun r8 =>
    ((¬ r8 = 0) → (
    vp_in x1 8 ∧
    wX8_lowest M (M (o0 + 1) x1.toNatClampNeg) x3 (fun r9 =>
    vp_in (((40 : Int32) * x1) + x2) 320 ∧
    ∀ M10 : zM, M10 = va_up M (o0 + 3) (upd (M (o0 + 3)) (((40 : Int32) * x1) + x2).toNatClampNeg r9) →
    vp_in (((40 : Int32) * x1) + x2) 320 ∧
    ∀ x11 : Int32, x11 = (M10 (o0 + 3) (((40 : Int32) * x1) + x2).toNatClampNeg) →
    wX8_well M10 o0 x11 (fun r12 M13 =>
    Q r12 M13)))) ∧
    ((r8 = 0) → (
    wX8_found M o0 (2 : Int32) (fun r14 M15 =>
    Q r14 M15)))))) ∧
    ((¬ r7 = 0) → (
    wX8_found M o0 (1 : Int32) (fun r16 M17 =>
    Q r16 M17)))))) ∧
    ((r6 = 0) → (
    Q (-1000001 : Int32) M)))
set_option maxHeartbeats 4000000 in
set_option maxRecDepth 100000 in
theorem kX8_set {l : Launch} {D : va_G} {Y : zY} {ad kd : Nat → Nat} {RL : List Nat} {M : zM} {J : zL} {o0 : Nat} {x1 : Int32} {x2 : Int32} {x3 : Int32} (h_o0 : kd o0 = 8) {Q : Int32 → zM → Prop} (hq : wX8_set M o0 x1 x2 x3 Q) : zCi l yX8_set wsX8_set rmX8_set [.ref (ad o0), .int x1, .int x2, .int x3] D Y ad kd RL M J (fun r M' J' => Q r M' ∧ J = J') := by
  refine z_meti (cc := cX8_set) (maxL := 4) (ret := (some .int)) (by decide) rfl (Nat.le_of_ble_eq_true rfl) ?_
  intro p e s m below meth c ls A ar QE hQE hx hb hr hml hown hts hlk hw hl
  have hown : s.vm.findClass RX8 = some m.cls := hown
  have hl : lv_has ls 4 [(0, .ref (ad o0)), (1, .int x1), (2, .int x2), (3, .int x3)] := hl
  have hC := hw.2.2.2.2.2.1
  have g8 : ∀ w ∈ wsX80, w.before ar s = true := (fun w h => hts w (List.mem_cons_of_mem _ (List.mem_append_right _ h)))
  have q1 := hts _ (List.mem_of_getElem? (i := 1) rfl)
  have q2 := hts _ (List.mem_of_getElem? (i := 2) rfl)
  have q3 := hts _ (List.mem_of_getElem? (i := 3) rfl)
  have q4 := hts _ (List.mem_of_getElem? (i := 4) rfl)
  unfold wX8_set at hq
  refine lv_iload_n hx hb dX8_set_0 rfl (lv_at hl 1 rfl) ?_
  refine z_csi ⟨hx, hb, hml, hown, hts⟩ hw (kX8_isRow  hq) (va_cwS 1 hts gX8_set_X8_isRow rfl rfl rfl (by decide +kernel) ⟨Nat.le_of_ble_eq_true rfl, Nat.le_of_ble_eq_true rfl⟩) rfl hl.1 rfl (Nat.le_of_ble_eq_true rfl) dX8_set_1 ⟨Nat.zero_le _, Nat.zero_le _⟩ (fun r6 M0 J0 H locs hq hw => ?_)
  obtain ⟨hq, rfl, rfl⟩ := hq
  refine lv_if_ne (tgt := 10) hx hb dX8_set_4 (by decide) (fun hc => ?_) (fun hc => ?_)
  · have hq := hq.1 hc
    refine lv_aload_n hx hb dX8_set_10 rfl (lv_at hl 0 rfl) ?_
    refine lv_iload_n hx hb dX8_set_11 rfl (lv_at hl 1 rfl) ?_
    refine z_cvi ⟨hx, hb, hml, hown, hts⟩ hw h_o0 (kX8_isMissing h_o0 hq) (by decide) rfl (cwV 1 hts gX8_set_X8_isMissing rfl rfl rfl (by decide +kernel) ⟨Nat.le_of_ble_eq_true rfl, Nat.le_of_ble_eq_true rfl⟩) rfl hl.1 rfl (Nat.le_of_ble_eq_true rfl) dX8_set_12 ⟨Nat.zero_le _, Nat.zero_le _⟩ (fun r7 M0 J0 H locs hq hw => ?_)
    obtain ⟨hq, rfl, rfl⟩ := hq
    refine lv_if_eq (tgt := 24) hx hb dX8_set_15 (by decide) (fun hc => ?_) (fun hc => ?_)
    · have hq := hq.1 hc
      refine lv_iload_n hx hb dX8_set_24 rfl (lv_at hl 2 rfl) ?_
      refine lv_iconst (v := (0 : Int32)) hx hb dX8_set_25 (by decide) ?_
      refine lv_aload_n hx hb dX8_set_26 rfl (lv_at hl 0 rfl) ?_
      refine zg8_many hx hb g8 hown hw h_o0 q2 dX8_set_27 ?_
      refine lv_iload_n hx hb dX8_set_30 rfl (lv_at hl 1 rfl) ?_
      obtain ⟨hi, hq⟩ := hq
      refine z_iald (n := 8) hx hb hw (zk_8_2 hC h_o0) hi dX8_set_31 ?_
      refine lv_iconst (v := (1 : Int32)) hx hb dX8_set_32 (by decide) ?_
      refine lv_isub hx hb dX8_set_33 ?_
      refine z_csi ⟨hx, hb, hml, hown, hts⟩ hw (kX8_in  hq) (va_cwS 3 hts gX8_set_X8_in rfl rfl rfl (by decide +kernel) ⟨Nat.le_of_ble_eq_true rfl, Nat.le_of_ble_eq_true rfl⟩) rfl hl.1 rfl (Nat.le_of_ble_eq_true rfl) dX8_set_34 ⟨Nat.zero_le _, Nat.zero_le _⟩ (fun r8 M0 J0 H locs hq hw => ?_)
      obtain ⟨hq, rfl, rfl⟩ := hq
      refine lv_if_ne (tgt := 46) hx hb dX8_set_37 (by decide) (fun hc => ?_) (fun hc => ?_)
      · have hq := hq.1 hc
        refine lv_aload_n hx hb dX8_set_46 rfl (lv_at hl 0 rfl) ?_
        refine zg8_items hx hb g8 hown hw h_o0 q3 dX8_set_47 ?_
        refine lv_bipush (v := (40 : Int32)) hx hb dX8_set_50 (by decide) ?_
        refine lv_iload_n hx hb dX8_set_52 rfl (lv_at hl 1 rfl) ?_
        refine lv_imul hx hb dX8_set_53 ?_
        refine lv_iload_n hx hb dX8_set_54 rfl (lv_at hl 2 rfl) ?_
        refine lv_iadd hx hb dX8_set_55 ?_
        refine lv_aload_n hx hb dX8_set_56 rfl (lv_at hl 0 rfl) ?_
        refine zg8_lane hx hb g8 hown hw h_o0 q4 dX8_set_57 ?_
        refine lv_iload_n hx hb dX8_set_60 rfl (lv_at hl 1 rfl) ?_
        obtain ⟨hi, hq⟩ := hq
        refine z_iald (n := 8) hx hb hw (zk_8_1 hC h_o0) hi dX8_set_61 ?_
        refine lv_iload_n hx hb dX8_set_62 rfl (lv_at hl 3 rfl) ?_
        refine z_csi ⟨hx, hb, hml, hown, hts⟩ hw (kX8_lowest  hq) (va_cwS 2 hts gX8_set_X8_lowest rfl rfl rfl (by decide +kernel) ⟨Nat.le_of_ble_eq_true rfl, Nat.le_of_ble_eq_true rfl⟩) rfl hl.1 rfl (Nat.le_of_ble_eq_true rfl) dX8_set_63 ⟨Nat.zero_le _, Nat.zero_le _⟩ (fun r9 M0 J0 H locs hq hw => ?_)
        obtain ⟨hq, rfl, rfl⟩ := hq
        obtain ⟨hi, hq⟩ := hq
        refine z_iast (n := 320) hx hb hw (zk_8_3 hC h_o0) hi dX8_set_66 (fun H locs hw => ?_)
        obtain ⟨M10, e_M10⟩ : ∃ y : zM, y = va_up M (o0 + 3) (upd (M (o0 + 3)) (((40 : Int32) * x1) + x2).toNatClampNeg r9) := ⟨_, rfl⟩
        rw [← e_M10] at hw
        have hq := hq M10 e_M10
        refine lv_aload_n hx hb dX8_set_67 rfl (lv_at hl 0 rfl) ?_
        refine lv_aload_n hx hb dX8_set_68 rfl (lv_at hl 0 rfl) ?_
        refine zg8_items hx hb g8 hown hw h_o0 q3 dX8_set_69 ?_
        refine lv_bipush (v := (40 : Int32)) hx hb dX8_set_72 (by decide) ?_
        refine lv_iload_n hx hb dX8_set_74 rfl (lv_at hl 1 rfl) ?_
        refine lv_imul hx hb dX8_set_75 ?_
        refine lv_iload_n hx hb dX8_set_76 rfl (lv_at hl 2 rfl) ?_
        refine lv_iadd hx hb dX8_set_77 ?_
        obtain ⟨hi, hq⟩ := hq
        refine z_iald (n := 320) hx hb hw (zk_8_3 hC h_o0) hi dX8_set_78 ?_
        refine lv_topi (fun x11 e_x11 => ?_)
        have hq := hq x11 e_x11
        refine z_cvi ⟨hx, hb, hml, hown, hts⟩ hw h_o0 (kX8_well h_o0 hq) (by decide) rfl (cwV 1 hts gX8_set_X8_well rfl rfl rfl (by decide +kernel) ⟨Nat.le_of_ble_eq_true rfl, Nat.le_of_ble_eq_true rfl⟩) rfl hl.1 rfl (Nat.le_of_ble_eq_true rfl) dX8_set_79 ⟨Nat.zero_le _, Nat.zero_le _⟩ (fun r12 M13 J0 H locs hq hw => ?_)
        obtain ⟨hq, rfl⟩ := hq
        exact z_iret hQE hx hb hr hlk hw dX8_set_82 ⟨hq, rfl⟩
      · have hq := hq.2 hc
        refine lv_aload_n hx hb dX8_set_40 rfl (lv_at hl 0 rfl) ?_
        refine lv_iconst (v := (2 : Int32)) hx hb dX8_set_41 (by decide) ?_
        refine z_cvi ⟨hx, hb, hml, hown, hts⟩ hw h_o0 (kX8_found h_o0 hq) (by decide) rfl (cwV 1 hts gX8_set_X8_found rfl rfl rfl (by decide +kernel) ⟨Nat.le_of_ble_eq_true rfl, Nat.le_of_ble_eq_true rfl⟩) rfl hl.1 rfl (Nat.le_of_ble_eq_true rfl) dX8_set_42 ⟨Nat.zero_le _, Nat.zero_le _⟩ (fun r14 M15 J0 H locs hq hw => ?_)
        obtain ⟨hq, rfl⟩ := hq
        exact z_iret hQE hx hb hr hlk hw dX8_set_45 ⟨hq, rfl⟩
    · have hq := hq.2 hc
      refine lv_aload_n hx hb dX8_set_18 rfl (lv_at hl 0 rfl) ?_
      refine lv_iconst (v := (1 : Int32)) hx hb dX8_set_19 (by decide) ?_
      refine z_cvi ⟨hx, hb, hml, hown, hts⟩ hw h_o0 (kX8_found h_o0 hq) (by decide) rfl (cwV 1 hts gX8_set_X8_found rfl rfl rfl (by decide +kernel) ⟨Nat.le_of_ble_eq_true rfl, Nat.le_of_ble_eq_true rfl⟩) rfl hl.1 rfl (Nat.le_of_ble_eq_true rfl) dX8_set_20 ⟨Nat.zero_le _, Nat.zero_le _⟩ (fun r16 M17 J0 H locs hq hw => ?_)
      obtain ⟨hq, rfl⟩ := hq
      exact z_iret hQE hx hb hr hlk hw dX8_set_23 ⟨hq, rfl⟩
  · have hq := hq.2 hc
    refine lv_ldc (v := (-1000001 : Int32)) hx hb hown q1 dX8_set_7 ?_
    exact z_iret hQE hx hb hr hlk hw dX8_set_9 ⟨hq, rfl⟩
theorem dX8_isPart_0 : decode cX8_isPart 0 = .ok (.iload_n 2, 1) := by decide +kernel
theorem dX8_isPart_1 : decode cX8_isPart 1 = .ok (.ifCond .lt 33, 3) := by decide +kernel
theorem dX8_isPart_4 : decode cX8_isPart 4 = .ok (.iload_n 3, 1) := by decide +kernel
theorem dX8_isPart_5 : decode cX8_isPart 5 = .ok (.ifCond .lt 29, 3) := by decide +kernel
theorem dX8_isPart_8 : decode cX8_isPart 8 = .ok (.iload_n 2, 1) := by decide +kernel
theorem dX8_isPart_9 : decode cX8_isPart 9 = .ok (.aload_n 0, 1) := by decide +kernel
theorem dX8_isPart_10 : decode cX8_isPart 10 = .ok (.getfield 13, 3) := by decide +kernel
theorem dX8_isPart_13 : decode cX8_isPart 13 = .ok (.iload_n 1, 1) := by decide +kernel
theorem dX8_isPart_14 : decode cX8_isPart 14 = .ok (.iaload, 1) := by decide +kernel
theorem dX8_isPart_15 : decode cX8_isPart 15 = .ok (.if_icmp .gt 19, 3) := by decide +kernel
theorem dX8_isPart_18 : decode cX8_isPart 18 = .ok (.iload_n 3, 1) := by decide +kernel
theorem dX8_isPart_19 : decode cX8_isPart 19 = .ok (.aload_n 0, 1) := by decide +kernel
theorem dX8_isPart_20 : decode cX8_isPart 20 = .ok (.getfield 13, 3) := by decide +kernel
theorem dX8_isPart_23 : decode cX8_isPart 23 = .ok (.iload_n 1, 1) := by decide +kernel
theorem dX8_isPart_24 : decode cX8_isPart 24 = .ok (.iaload, 1) := by decide +kernel
theorem dX8_isPart_25 : decode cX8_isPart 25 = .ok (.iload_n 2, 1) := by decide +kernel
theorem dX8_isPart_26 : decode cX8_isPart 26 = .ok (.isub, 1) := by decide +kernel
theorem dX8_isPart_27 : decode cX8_isPart 27 = .ok (.if_icmp .gt 7, 3) := by decide +kernel
theorem dX8_isPart_30 : decode cX8_isPart 30 = .ok (.iconst 1, 1) := by decide +kernel
theorem dX8_isPart_31 : decode cX8_isPart 31 = .ok (.goto 4, 3) := by decide +kernel
theorem dX8_isPart_34 : decode cX8_isPart 34 = .ok (.iconst 0, 1) := by decide +kernel
theorem dX8_isPart_35 : decode cX8_isPart 35 = .ok (.ireturn, 1) := by decide +kernel
def rmX8_isPart : Room := { frames := 0, cells := 0, slots := 0, locals := 0 }
def wX8_isPart (M : zM) (o0 : Nat) (x1 : Int32) (x2 : Int32) (x3 : Int32) (Q : Int32 → Prop) : Prop :=
    ((x2 < 0) → (
    Q (0 : Int32))) ∧
    ((¬ x2 < 0) → (
    ((x3 < 0) → (
    Q (0 : Int32))) ∧
    ((¬ x3 < 0) → (
    vp_in x1 8 ∧
    (((M (o0 + 2) x1.toNatClampNeg) < x2) → (
    Q (0 : Int32))) ∧
    ((¬ (M (o0 + 2) x1.toNatClampNeg) < x2) → (
    vp_in x1 8 ∧
    ((((M (o0 + 2) x1.toNatClampNeg) - x2) < x3) → (
    Q (0 : Int32))) ∧
    ((¬ ((M (o0 + 2) x1.toNatClampNeg) - x2) < x3) → (
    Q (1 : Int32)))))))))
set_option maxHeartbeats 4000000 in
set_option maxRecDepth 100000 in
theorem kX8_isPart {l : Launch} {D : va_G} {Y : zY} {ad kd : Nat → Nat} {RL : List Nat} {M : zM} {J : zL} {o0 : Nat} {x1 : Int32} {x2 : Int32} {x3 : Int32} (h_o0 : kd o0 = 8) {Q : Int32 → Prop} (hq : wX8_isPart M o0 x1 x2 x3 Q) : zCi l yX8_isPart wsX8_isPart rmX8_isPart [.ref (ad o0), .int x1, .int x2, .int x3] D Y ad kd RL M J (fun r M' J' => Q r ∧ M = M' ∧ J = J') := by
  refine z_meti (cc := cX8_isPart) (maxL := 4) (ret := (some .boolean)) (by decide) rfl (Nat.le_of_ble_eq_true rfl) ?_
  intro p e s m below meth c ls A ar QE hQE hx hb hr hml hown hts hlk hw hl
  have hown : s.vm.findClass RX8 = some m.cls := hown
  have hl : lv_has ls 4 [(0, .ref (ad o0)), (1, .int x1), (2, .int x2), (3, .int x3)] := hl
  have hC := hw.2.2.2.2.2.1
  have g8 : ∀ w ∈ wsX80, w.before ar s = true := (fun w h => hts w (List.mem_cons_of_mem _ (List.mem_append_right _ h)))
  have q1 := hts _ (List.mem_of_getElem? (i := 1) rfl)
  unfold wX8_isPart at hq
  refine lv_iload_n hx hb dX8_isPart_0 rfl (lv_at hl 2 rfl) ?_
  refine lv_if_lt (tgt := 34) hx hb dX8_isPart_1 (by decide) (fun hc => ?_) (fun hc => ?_)
  · have hq := hq.1 hc
    refine lv_iconst (v := (0 : Int32)) hx hb dX8_isPart_34 (by decide) ?_
    exact z_zret hQE hx hb hr hlk hw dX8_isPart_35 (by decide) ⟨hq, rfl, rfl⟩
  · have hq := hq.2 hc
    refine lv_iload_n hx hb dX8_isPart_4 rfl (lv_at hl 3 rfl) ?_
    refine lv_if_lt (tgt := 34) hx hb dX8_isPart_5 (by decide) (fun hc => ?_) (fun hc => ?_)
    · have hq := hq.1 hc
      refine lv_iconst (v := (0 : Int32)) hx hb dX8_isPart_34 (by decide) ?_
      exact z_zret hQE hx hb hr hlk hw dX8_isPart_35 (by decide) ⟨hq, rfl, rfl⟩
    · have hq := hq.2 hc
      refine lv_iload_n hx hb dX8_isPart_8 rfl (lv_at hl 2 rfl) ?_
      refine lv_aload_n hx hb dX8_isPart_9 rfl (lv_at hl 0 rfl) ?_
      refine zg8_many hx hb g8 hown hw h_o0 q1 dX8_isPart_10 ?_
      refine lv_iload_n hx hb dX8_isPart_13 rfl (lv_at hl 1 rfl) ?_
      obtain ⟨hi, hq⟩ := hq
      refine z_iald (n := 8) hx hb hw (zk_8_2 hC h_o0) hi dX8_isPart_14 ?_
      refine lv_icmp_gt (tgt := 34) hx hb dX8_isPart_15 (by decide) (fun hc => ?_) (fun hc => ?_)
      · have hq := hq.1 hc
        refine lv_iconst (v := (0 : Int32)) hx hb dX8_isPart_34 (by decide) ?_
        exact z_zret hQE hx hb hr hlk hw dX8_isPart_35 (by decide) ⟨hq, rfl, rfl⟩
      · have hq := hq.2 hc
        refine lv_iload_n hx hb dX8_isPart_18 rfl (lv_at hl 3 rfl) ?_
        refine lv_aload_n hx hb dX8_isPart_19 rfl (lv_at hl 0 rfl) ?_
        refine zg8_many hx hb g8 hown hw h_o0 q1 dX8_isPart_20 ?_
        refine lv_iload_n hx hb dX8_isPart_23 rfl (lv_at hl 1 rfl) ?_
        obtain ⟨hi, hq⟩ := hq
        refine z_iald (n := 8) hx hb hw (zk_8_2 hC h_o0) hi dX8_isPart_24 ?_
        refine lv_iload_n hx hb dX8_isPart_25 rfl (lv_at hl 2 rfl) ?_
        refine lv_isub hx hb dX8_isPart_26 ?_
        refine lv_icmp_gt (tgt := 34) hx hb dX8_isPart_27 (by decide) (fun hc => ?_) (fun hc => ?_)
        · have hq := hq.1 hc
          refine lv_iconst (v := (0 : Int32)) hx hb dX8_isPart_34 (by decide) ?_
          exact z_zret hQE hx hb hr hlk hw dX8_isPart_35 (by decide) ⟨hq, rfl, rfl⟩
        · have hq := hq.2 hc
          refine lv_iconst (v := (1 : Int32)) hx hb dX8_isPart_30 (by decide) ?_
          refine lv_goto (tgt := 35) hx hb dX8_isPart_31 (by decide) ?_
          exact z_zret hQE hx hb hr hlk hw dX8_isPart_35 (by decide) ⟨hq, rfl, rfl⟩
set_option maxRecDepth 20000 in
theorem ggX8_copy_X8_isRow : GoodIn wsX8_copy wsX8_isRow := goodIn_r _ [8, 9, 10, 7, 11] (by decide +kernel) (by decide +kernel)
set_option maxRecDepth 20000 in
theorem gX8_copy_X8_isRow : GoodIn wsX8_copy (va_wsS RX8 63 yX8_isRow wsX8_isRow) := goodIn_app (goodIn_of _ (by decide +kernel)) ggX8_copy_X8_isRow
set_option maxRecDepth 20000 in
theorem ggX8_copy_X8_isMissing : GoodIn wsX8_copy wsX8_isMissing := goodIn_r _ [15, 2, 16, 32, 33, 34, 35, 36, 37, 38, 39, 40, 41, 42, 43, 44, 45, 46, 47, 48, 49, 50, 51, 52, 53, 54, 55, 56, 57] (by decide +kernel) (by decide +kernel)
set_option maxRecDepth 20000 in
theorem gX8_copy_X8_isMissing : GoodIn wsX8_copy (wsV RX8 75 RX8 yX8_isMissing wsX8_isMissing) := goodIn_app (goodIn_of _ (by decide +kernel)) ggX8_copy_X8_isMissing
set_option maxRecDepth 20000 in
theorem ggX8_copy_X8_found : GoodIn wsX8_copy wsX8_found := goodIn_r _ [20, 21, 22, 32, 33, 34, 35, 36, 37, 38, 39, 40, 41, 42, 43, 44, 45, 46, 47, 48, 49, 50, 51, 52, 53, 54, 55, 56, 57] (by decide +kernel) (by decide +kernel)
set_option maxRecDepth 20000 in
theorem gX8_copy_X8_found : GoodIn wsX8_copy (wsV RX8 68 RX8 yX8_found wsX8_found) := goodIn_app (goodIn_of _ (by decide +kernel)) ggX8_copy_X8_found
set_option maxRecDepth 20000 in
theorem ggX8_copy_X8_isPart : GoodIn wsX8_copy wsX8_isPart := goodIn_r _ [26, 27, 32, 33, 34, 35, 36, 37, 38, 39, 40, 41, 42, 43, 44, 45, 46, 47, 48, 49, 50, 51, 52, 53, 54, 55, 56, 57] (by decide +kernel) (by decide +kernel)
set_option maxRecDepth 20000 in
theorem gX8_copy_X8_isPart : GoodIn wsX8_copy (wsV RX8 82 RX8 yX8_isPart wsX8_isPart) := goodIn_app (goodIn_of _ (by decide +kernel)) ggX8_copy_X8_isPart
set_option maxRecDepth 20000 in
theorem ggX8_copy_X8_well : GoodIn wsX8_copy wsX8_well := goodIn_r _ [31, 21, 32, 33, 34, 35, 36, 37, 38, 39, 40, 41, 42, 43, 44, 45, 46, 47, 48, 49, 50, 51, 52, 53, 54, 55, 56, 57] (by decide +kernel) (by decide +kernel)
set_option maxRecDepth 20000 in
theorem gX8_copy_X8_well : GoodIn wsX8_copy (wsV RX8 72 RX8 yX8_well wsX8_well) := goodIn_app (goodIn_of _ (by decide +kernel)) ggX8_copy_X8_well
theorem dX8_copy_0 : decode cX8_copy 0 = .ok (.iload_n 1, 1) := by decide +kernel
theorem dX8_copy_1 : decode cX8_copy 1 = .ok (.invokestatic 63, 3) := by decide +kernel
theorem dX8_copy_4 : decode cX8_copy 4 = .ok (.ifCond .eq 10, 3) := by decide +kernel
theorem dX8_copy_7 : decode cX8_copy 7 = .ok (.iload_n 3, 1) := by decide +kernel
theorem dX8_copy_8 : decode cX8_copy 8 = .ok (.invokestatic 63, 3) := by decide +kernel
theorem dX8_copy_11 : decode cX8_copy 11 = .ok (.ifCond .ne 6, 3) := by decide +kernel
theorem dX8_copy_14 : decode cX8_copy 14 = .ok (.ldc 67, 2) := by decide +kernel
theorem dX8_copy_16 : decode cX8_copy 16 = .ok (.ireturn, 1) := by decide +kernel
theorem dX8_copy_17 : decode cX8_copy 17 = .ok (.aload_n 0, 1) := by decide +kernel
theorem dX8_copy_18 : decode cX8_copy 18 = .ok (.iload_n 1, 1) := by decide +kernel
theorem dX8_copy_19 : decode cX8_copy 19 = .ok (.invokevirtual 75, 3) := by decide +kernel
theorem dX8_copy_22 : decode cX8_copy 22 = .ok (.ifCond .ne 11, 3) := by decide +kernel
theorem dX8_copy_25 : decode cX8_copy 25 = .ok (.aload_n 0, 1) := by decide +kernel
theorem dX8_copy_26 : decode cX8_copy 26 = .ok (.iload_n 3, 1) := by decide +kernel
theorem dX8_copy_27 : decode cX8_copy 27 = .ok (.invokevirtual 75, 3) := by decide +kernel
theorem dX8_copy_30 : decode cX8_copy 30 = .ok (.ifCond .eq 9, 3) := by decide +kernel
theorem dX8_copy_33 : decode cX8_copy 33 = .ok (.aload_n 0, 1) := by decide +kernel
theorem dX8_copy_34 : decode cX8_copy 34 = .ok (.iconst 1, 1) := by decide +kernel
theorem dX8_copy_35 : decode cX8_copy 35 = .ok (.invokevirtual 68, 3) := by decide +kernel
theorem dX8_copy_38 : decode cX8_copy 38 = .ok (.ireturn, 1) := by decide +kernel
theorem dX8_copy_39 : decode cX8_copy 39 = .ok (.aload_n 0, 1) := by decide +kernel
theorem dX8_copy_40 : decode cX8_copy 40 = .ok (.getfield 7, 3) := by decide +kernel
theorem dX8_copy_43 : decode cX8_copy 43 = .ok (.iload_n 1, 1) := by decide +kernel
theorem dX8_copy_44 : decode cX8_copy 44 = .ok (.iaload, 1) := by decide +kernel
theorem dX8_copy_45 : decode cX8_copy 45 = .ok (.aload_n 0, 1) := by decide +kernel
theorem dX8_copy_46 : decode cX8_copy 46 = .ok (.getfield 7, 3) := by decide +kernel
theorem dX8_copy_49 : decode cX8_copy 49 = .ok (.iload_n 3, 1) := by decide +kernel
theorem dX8_copy_50 : decode cX8_copy 50 = .ok (.iaload, 1) := by decide +kernel
theorem dX8_copy_51 : decode cX8_copy 51 = .ok (.if_icmp .eq 9, 3) := by decide +kernel
theorem dX8_copy_54 : decode cX8_copy 54 = .ok (.aload_n 0, 1) := by decide +kernel
theorem dX8_copy_55 : decode cX8_copy 55 = .ok (.iconst 5, 1) := by decide +kernel
theorem dX8_copy_56 : decode cX8_copy 56 = .ok (.invokevirtual 68, 3) := by decide +kernel
theorem dX8_copy_59 : decode cX8_copy 59 = .ok (.ireturn, 1) := by decide +kernel
theorem dX8_copy_60 : decode cX8_copy 60 = .ok (.aload_n 0, 1) := by decide +kernel
theorem dX8_copy_61 : decode cX8_copy 61 = .ok (.iload_n 1, 1) := by decide +kernel
theorem dX8_copy_62 : decode cX8_copy 62 = .ok (.iload_n 2, 1) := by decide +kernel
theorem dX8_copy_63 : decode cX8_copy 63 = .ok (.iload 5, 2) := by decide +kernel
theorem dX8_copy_65 : decode cX8_copy 65 = .ok (.invokevirtual 82, 3) := by decide +kernel
theorem dX8_copy_68 : decode cX8_copy 68 = .ok (.ifCond .eq 15, 3) := by decide +kernel
theorem dX8_copy_71 : decode cX8_copy 71 = .ok (.aload_n 0, 1) := by decide +kernel
theorem dX8_copy_72 : decode cX8_copy 72 = .ok (.iload_n 3, 1) := by decide +kernel
theorem dX8_copy_73 : decode cX8_copy 73 = .ok (.iload 4, 2) := by decide +kernel
theorem dX8_copy_75 : decode cX8_copy 75 = .ok (.iload 5, 2) := by decide +kernel
theorem dX8_copy_77 : decode cX8_copy 77 = .ok (.invokevirtual 82, 3) := by decide +kernel
theorem dX8_copy_80 : decode cX8_copy 80 = .ok (.ifCond .ne 9, 3) := by decide +kernel
theorem dX8_copy_83 : decode cX8_copy 83 = .ok (.aload_n 0, 1) := by decide +kernel
theorem dX8_copy_84 : decode cX8_copy 84 = .ok (.iconst 2, 1) := by decide +kernel
theorem dX8_copy_85 : decode cX8_copy 85 = .ok (.invokevirtual 68, 3) := by decide +kernel
theorem dX8_copy_88 : decode cX8_copy 88 = .ok (.ireturn, 1) := by decide +kernel
theorem dX8_copy_89 : decode cX8_copy 89 = .ok (.iconst 0, 1) := by decide +kernel
theorem dX8_copy_90 : decode cX8_copy 90 = .ok (.istore 6, 2) := by decide +kernel
theorem dX8_copy_92 : decode cX8_copy 92 = .ok (.iload 6, 2) := by decide +kernel
theorem dX8_copy_94 : decode cX8_copy 94 = .ok (.iload 5, 2) := by decide +kernel
theorem dX8_copy_96 : decode cX8_copy 96 = .ok (.if_icmp .ge 30, 3) := by decide +kernel
theorem dX8_copy_99 : decode cX8_copy 99 = .ok (.aload_n 0, 1) := by decide +kernel
theorem dX8_copy_100 : decode cX8_copy 100 = .ok (.getfield 19, 3) := by decide +kernel
theorem dX8_copy_103 : decode cX8_copy 103 = .ok (.iload 6, 2) := by decide +kernel
theorem dX8_copy_105 : decode cX8_copy 105 = .ok (.aload_n 0, 1) := by decide +kernel
theorem dX8_copy_106 : decode cX8_copy 106 = .ok (.getfield 16, 3) := by decide +kernel
theorem dX8_copy_109 : decode cX8_copy 109 = .ok (.bipush 40, 2) := by decide +kernel
theorem dX8_copy_111 : decode cX8_copy 111 = .ok (.iload_n 1, 1) := by decide +kernel
theorem dX8_copy_112 : decode cX8_copy 112 = .ok (.imul, 1) := by decide +kernel
theorem dX8_copy_113 : decode cX8_copy 113 = .ok (.iload_n 2, 1) := by decide +kernel
theorem dX8_copy_114 : decode cX8_copy 114 = .ok (.iadd, 1) := by decide +kernel
theorem dX8_copy_115 : decode cX8_copy 115 = .ok (.iload 6, 2) := by decide +kernel
theorem dX8_copy_117 : decode cX8_copy 117 = .ok (.iadd, 1) := by decide +kernel
theorem dX8_copy_118 : decode cX8_copy 118 = .ok (.iaload, 1) := by decide +kernel
theorem dX8_copy_119 : decode cX8_copy 119 = .ok (.iastore, 1) := by decide +kernel
theorem dX8_copy_120 : decode cX8_copy 120 = .ok (.iinc 6 1, 3) := by decide +kernel
theorem dX8_copy_123 : decode cX8_copy 123 = .ok (.goto (-31), 3) := by decide +kernel
theorem dX8_copy_126 : decode cX8_copy 126 = .ok (.iconst 0, 1) := by decide +kernel
theorem dX8_copy_127 : decode cX8_copy 127 = .ok (.istore 6, 2) := by decide +kernel
theorem dX8_copy_129 : decode cX8_copy 129 = .ok (.iload 6, 2) := by decide +kernel
theorem dX8_copy_131 : decode cX8_copy 131 = .ok (.iload 5, 2) := by decide +kernel
theorem dX8_copy_133 : decode cX8_copy 133 = .ok (.if_icmp .ge 31, 3) := by decide +kernel
theorem dX8_copy_136 : decode cX8_copy 136 = .ok (.aload_n 0, 1) := by decide +kernel
theorem dX8_copy_137 : decode cX8_copy 137 = .ok (.getfield 16, 3) := by decide +kernel
theorem dX8_copy_140 : decode cX8_copy 140 = .ok (.bipush 40, 2) := by decide +kernel
theorem dX8_copy_142 : decode cX8_copy 142 = .ok (.iload_n 3, 1) := by decide +kernel
theorem dX8_copy_143 : decode cX8_copy 143 = .ok (.imul, 1) := by decide +kernel
theorem dX8_copy_144 : decode cX8_copy 144 = .ok (.iload 4, 2) := by decide +kernel
theorem dX8_copy_146 : decode cX8_copy 146 = .ok (.iadd, 1) := by decide +kernel
theorem dX8_copy_147 : decode cX8_copy 147 = .ok (.iload 6, 2) := by decide +kernel
theorem dX8_copy_149 : decode cX8_copy 149 = .ok (.iadd, 1) := by decide +kernel
theorem dX8_copy_150 : decode cX8_copy 150 = .ok (.aload_n 0, 1) := by decide +kernel
theorem dX8_copy_151 : decode cX8_copy 151 = .ok (.getfield 19, 3) := by decide +kernel
theorem dX8_copy_154 : decode cX8_copy 154 = .ok (.iload 6, 2) := by decide +kernel
theorem dX8_copy_156 : decode cX8_copy 156 = .ok (.iaload, 1) := by decide +kernel
theorem dX8_copy_157 : decode cX8_copy 157 = .ok (.iastore, 1) := by decide +kernel
theorem dX8_copy_158 : decode cX8_copy 158 = .ok (.iinc 6 1, 3) := by decide +kernel
theorem dX8_copy_161 : decode cX8_copy 161 = .ok (.goto (-32), 3) := by decide +kernel
theorem dX8_copy_164 : decode cX8_copy 164 = .ok (.aload_n 0, 1) := by decide +kernel
theorem dX8_copy_165 : decode cX8_copy 165 = .ok (.iload 5, 2) := by decide +kernel
theorem dX8_copy_167 : decode cX8_copy 167 = .ok (.invokevirtual 72, 3) := by decide +kernel
theorem dX8_copy_170 : decode cX8_copy 170 = .ok (.ireturn, 1) := by decide +kernel
def rmX8_copy : Room := { frames := 2, cells := 0, slots := 0, locals := 42 }
def lpX8_copy_129 (o0 : Nat) (x3 : Int32) (x4 : Int32) (x5 : Int32) (Q : Int32 → zM → Prop) : Nat → Int32 → zM → Prop
  | 0, _, _ => False
  | fu129 + 1, x22, M23 =>
    ((x5 ≤ x22) → (
    wX8_well M23 o0 x5 (fun r24 M25 =>
    Q r24 M25))) ∧
    ((¬ x5 ≤ x22) → (
    vp_in x22 40 ∧
    vp_in ((((40 : Int32) * x3) + x4) + x22) 320 ∧
    ∀ M26 : zM, M26 = va_up M23 (o0 + 3) (upd (M23 (o0 + 3)) ((((40 : Int32) * x3) + x4) + x22).toNatClampNeg (M23 (o0 + 4) x22.toNatClampNeg)) →
    ∀ x27 : Int32, x27 = x22 + (1 : Int32) →
    lpX8_copy_129 o0 x3 x4 x5 Q fu129 x27 M26))
def lpX8_copy_92 (o0 : Nat) (x1 : Int32) (x2 : Int32) (x5 : Int32) (K92_126 : Int32 → zM → Prop) : Nat → Int32 → zM → Prop
  | 0, _, _ => False
  | fu92 + 1, x18, M19 =>
    ((x5 ≤ x18) → (
    K92_126 x18 M19)) ∧
    ((¬ x5 ≤ x18) → (
    vp_in ((((40 : Int32) * x1) + x2) + x18) 320 ∧
    ∀ x28 : Int32, x28 = (M19 (o0 + 3) ((((40 : Int32) * x1) + x2) + x18).toNatClampNeg) →
    vp_in x18 40 ∧
    ∀ M29 : zM, M29 = va_up M19 (o0 + 4) (upd (M19 (o0 + 4)) x18.toNatClampNeg x28) →
    ∀ x30 : Int32, x30 = x18 + (1 : Int32) →
    lpX8_copy_92 o0 x1 x2 x5 K92_126 fu92 x30 M29))
def wX8_copy (M : zM) (o0 : Nat) (x1 : Int32) (x2 : Int32) (x3 : Int32) (x4 : Int32) (x5 : Int32) (Q : Int32 → zM → Prop) : Prop :=
    wX8_isRow M x1 (fun r8 =>
    ((r8 = 0) → (
    Q (-1000001 : Int32) M)) ∧
    ((¬ r8 = 0) → (
    wX8_isRow M x3 (fun r9 =>
    ((¬ r9 = 0) → (
    wX8_isMissing M o0 x1 (fun r10 =>
    ((¬ r10 = 0) → (
    wX8_found M o0 (1 : Int32) (fun r11 M12 =>
    Q r11 M12))) ∧
    ((r10 = 0) → (
    wX8_isMissing M o0 x3 (fun r13 =>
    ((r13 = 0) → (
    vp_in x1 8 ∧
    vp_in x3 8 ∧
    (((M (o0 + 1) x1.toNatClampNeg) = (M (o0 + 1) x3.toNatClampNeg)) → (
    wX8_isPart M o0 x1 x2 x5 (fun r14 =>
    ((r14 = 0) → (
    wX8_found M o0 (2 : Int32) (fun r15 M16 =>
    Q r15 M16))) ∧
    ((¬ r14 = 0) → (
    wX8_isPart M o0 x3 x4 x5 (fun r17 =>
    ((¬ r17 = 0) → (
    ∃ fu92 : Nat, lpX8_copy_92 o0 x1 x2 x5 (fun x20 M21 =>
    ∃ fu129 : Nat, lpX8_copy_129 o0 x3 x4 x5 Q fu129 (0 : Int32) M21) fu92 (0 : Int32) M)) ∧
    ((r17 = 0) → (
    wX8_found M o0 (2 : Int32) (fun r31 M32 =>
    Q r31 M32))))))))) ∧
    ((¬ (M (o0 + 1) x1.toNatClampNeg) = (M (o0 + 1) x3.toNatClampNeg)) → (
    wX8_found M o0 (5 : Int32) (fun r33 M34 =>
    Q r33 M34))))) ∧
    ((¬ r13 = 0) → (
    wX8_found M o0 (1 : Int32) (fun r35 M36 =>
    Q r35 M36))))))))) ∧
    ((r9 = 0) → (
    Q (-1000001 : Int32) M))))))
set_option maxHeartbeats 4000000 in
set_option maxRecDepth 100000 in
theorem kX8_copy {l : Launch} {D : va_G} {Y : zY} {ad kd : Nat → Nat} {RL : List Nat} {M : zM} {J : zL} {o0 : Nat} {x1 : Int32} {x2 : Int32} {x3 : Int32} {x4 : Int32} {x5 : Int32} (h_o0 : kd o0 = 8) {Q : Int32 → zM → Prop} (hq : wX8_copy M o0 x1 x2 x3 x4 x5 Q) : zCi l yX8_copy wsX8_copy rmX8_copy [.ref (ad o0), .int x1, .int x2, .int x3, .int x4, .int x5] D Y ad kd RL M J (fun r M' J' => Q r M' ∧ J = J') := by
  refine z_meti (cc := cX8_copy) (maxL := 7) (ret := (some .int)) (by decide) rfl (Nat.le_of_ble_eq_true rfl) ?_
  intro p e s m below meth c ls A ar QE hQE hx hb hr hml hown hts hlk hw hl
  have hown : s.vm.findClass RX8 = some m.cls := hown
  have hl : lv_has ls 7 [(0, .ref (ad o0)), (1, .int x1), (2, .int x2), (3, .int x3), (4, .int x4), (5, .int x5)] := hl
  have hC := hw.2.2.2.2.2.1
  have g8 : ∀ w ∈ wsX80, w.before ar s = true := (fun w h => hts w (List.mem_cons_of_mem _ (List.mem_append_right _ h)))
  have q1 := hts _ (List.mem_of_getElem? (i := 1) rfl)
  have q2 := hts _ (List.mem_of_getElem? (i := 2) rfl)
  have q3 := hts _ (List.mem_of_getElem? (i := 3) rfl)
  have q4 := hts _ (List.mem_of_getElem? (i := 4) rfl)
  unfold wX8_copy at hq
  refine lv_iload_n hx hb dX8_copy_0 rfl (lv_at hl 1 rfl) ?_
  refine z_csi ⟨hx, hb, hml, hown, hts⟩ hw (kX8_isRow  hq) (va_cwS 1 hts gX8_copy_X8_isRow rfl rfl rfl (by decide +kernel) ⟨Nat.le_of_ble_eq_true rfl, Nat.le_of_ble_eq_true rfl⟩) rfl hl.1 rfl (Nat.le_of_ble_eq_true rfl) dX8_copy_1 ⟨Nat.zero_le _, Nat.zero_le _⟩ (fun r8 M0 J0 H locs hq hw => ?_)
  obtain ⟨hq, rfl, rfl⟩ := hq
  refine lv_if_eq (tgt := 14) hx hb dX8_copy_4 (by decide) (fun hc => ?_) (fun hc => ?_)
  · have hq := hq.1 hc
    refine lv_ldc (v := (-1000001 : Int32)) hx hb hown q1 dX8_copy_14 ?_
    exact z_iret hQE hx hb hr hlk hw dX8_copy_16 ⟨hq, rfl⟩
  · have hq := hq.2 hc
    refine lv_iload_n hx hb dX8_copy_7 rfl (lv_at hl 3 rfl) ?_
    refine z_csi ⟨hx, hb, hml, hown, hts⟩ hw (kX8_isRow  hq) (va_cwS 1 hts gX8_copy_X8_isRow rfl rfl rfl (by decide +kernel) ⟨Nat.le_of_ble_eq_true rfl, Nat.le_of_ble_eq_true rfl⟩) rfl hl.1 rfl (Nat.le_of_ble_eq_true rfl) dX8_copy_8 ⟨Nat.zero_le _, Nat.zero_le _⟩ (fun r9 M0 J0 H locs hq hw => ?_)
    obtain ⟨hq, rfl, rfl⟩ := hq
    refine lv_if_ne (tgt := 17) hx hb dX8_copy_11 (by decide) (fun hc => ?_) (fun hc => ?_)
    · have hq := hq.1 hc
      refine lv_aload_n hx hb dX8_copy_17 rfl (lv_at hl 0 rfl) ?_
      refine lv_iload_n hx hb dX8_copy_18 rfl (lv_at hl 1 rfl) ?_
      refine z_cvi ⟨hx, hb, hml, hown, hts⟩ hw h_o0 (kX8_isMissing h_o0 hq) (by decide) rfl (cwV 1 hts gX8_copy_X8_isMissing rfl rfl rfl (by decide +kernel) ⟨Nat.le_of_ble_eq_true rfl, Nat.le_of_ble_eq_true rfl⟩) rfl hl.1 rfl (Nat.le_of_ble_eq_true rfl) dX8_copy_19 ⟨Nat.zero_le _, Nat.zero_le _⟩ (fun r10 M0 J0 H locs hq hw => ?_)
      obtain ⟨hq, rfl, rfl⟩ := hq
      refine lv_if_ne (tgt := 33) hx hb dX8_copy_22 (by decide) (fun hc => ?_) (fun hc => ?_)
      · have hq := hq.1 hc
        refine lv_aload_n hx hb dX8_copy_33 rfl (lv_at hl 0 rfl) ?_
        refine lv_iconst (v := (1 : Int32)) hx hb dX8_copy_34 (by decide) ?_
        refine z_cvi ⟨hx, hb, hml, hown, hts⟩ hw h_o0 (kX8_found h_o0 hq) (by decide) rfl (cwV 1 hts gX8_copy_X8_found rfl rfl rfl (by decide +kernel) ⟨Nat.le_of_ble_eq_true rfl, Nat.le_of_ble_eq_true rfl⟩) rfl hl.1 rfl (Nat.le_of_ble_eq_true rfl) dX8_copy_35 ⟨Nat.zero_le _, Nat.zero_le _⟩ (fun r11 M12 J0 H locs hq hw => ?_)
        obtain ⟨hq, rfl⟩ := hq
        exact z_iret hQE hx hb hr hlk hw dX8_copy_38 ⟨hq, rfl⟩
      · have hq := hq.2 hc
        refine lv_aload_n hx hb dX8_copy_25 rfl (lv_at hl 0 rfl) ?_
        refine lv_iload_n hx hb dX8_copy_26 rfl (lv_at hl 3 rfl) ?_
        refine z_cvi ⟨hx, hb, hml, hown, hts⟩ hw h_o0 (kX8_isMissing h_o0 hq) (by decide) rfl (cwV 1 hts gX8_copy_X8_isMissing rfl rfl rfl (by decide +kernel) ⟨Nat.le_of_ble_eq_true rfl, Nat.le_of_ble_eq_true rfl⟩) rfl hl.1 rfl (Nat.le_of_ble_eq_true rfl) dX8_copy_27 ⟨Nat.zero_le _, Nat.zero_le _⟩ (fun r13 M0 J0 H locs hq hw => ?_)
        obtain ⟨hq, rfl, rfl⟩ := hq
        refine lv_if_eq (tgt := 39) hx hb dX8_copy_30 (by decide) (fun hc => ?_) (fun hc => ?_)
        · have hq := hq.1 hc
          refine lv_aload_n hx hb dX8_copy_39 rfl (lv_at hl 0 rfl) ?_
          refine zg8_lane hx hb g8 hown hw h_o0 q2 dX8_copy_40 ?_
          refine lv_iload_n hx hb dX8_copy_43 rfl (lv_at hl 1 rfl) ?_
          obtain ⟨hi, hq⟩ := hq
          refine z_iald (n := 8) hx hb hw (zk_8_1 hC h_o0) hi dX8_copy_44 ?_
          refine lv_aload_n hx hb dX8_copy_45 rfl (lv_at hl 0 rfl) ?_
          refine zg8_lane hx hb g8 hown hw h_o0 q2 dX8_copy_46 ?_
          refine lv_iload_n hx hb dX8_copy_49 rfl (lv_at hl 3 rfl) ?_
          obtain ⟨hi, hq⟩ := hq
          refine z_iald (n := 8) hx hb hw (zk_8_1 hC h_o0) hi dX8_copy_50 ?_
          refine lv_icmp_eq (tgt := 60) hx hb dX8_copy_51 (by decide) (fun hc => ?_) (fun hc => ?_)
          · have hq := hq.1 hc
            refine lv_aload_n hx hb dX8_copy_60 rfl (lv_at hl 0 rfl) ?_
            refine lv_iload_n hx hb dX8_copy_61 rfl (lv_at hl 1 rfl) ?_
            refine lv_iload_n hx hb dX8_copy_62 rfl (lv_at hl 2 rfl) ?_
            refine lv_iload hx hb dX8_copy_63 (lv_at hl 5 rfl) ?_
            refine z_cvi ⟨hx, hb, hml, hown, hts⟩ hw h_o0 (kX8_isPart h_o0 hq) (by decide) rfl (cwV 3 hts gX8_copy_X8_isPart rfl rfl rfl (by decide +kernel) ⟨Nat.le_of_ble_eq_true rfl, Nat.le_of_ble_eq_true rfl⟩) rfl hl.1 rfl (Nat.le_of_ble_eq_true rfl) dX8_copy_65 ⟨Nat.zero_le _, Nat.zero_le _⟩ (fun r14 M0 J0 H locs hq hw => ?_)
            obtain ⟨hq, rfl, rfl⟩ := hq
            refine lv_if_eq (tgt := 83) hx hb dX8_copy_68 (by decide) (fun hc => ?_) (fun hc => ?_)
            · have hq := hq.1 hc
              refine lv_aload_n hx hb dX8_copy_83 rfl (lv_at hl 0 rfl) ?_
              refine lv_iconst (v := (2 : Int32)) hx hb dX8_copy_84 (by decide) ?_
              refine z_cvi ⟨hx, hb, hml, hown, hts⟩ hw h_o0 (kX8_found h_o0 hq) (by decide) rfl (cwV 1 hts gX8_copy_X8_found rfl rfl rfl (by decide +kernel) ⟨Nat.le_of_ble_eq_true rfl, Nat.le_of_ble_eq_true rfl⟩) rfl hl.1 rfl (Nat.le_of_ble_eq_true rfl) dX8_copy_85 ⟨Nat.zero_le _, Nat.zero_le _⟩ (fun r15 M16 J0 H locs hq hw => ?_)
              obtain ⟨hq, rfl⟩ := hq
              exact z_iret hQE hx hb hr hlk hw dX8_copy_88 ⟨hq, rfl⟩
            · have hq := hq.2 hc
              refine lv_aload_n hx hb dX8_copy_71 rfl (lv_at hl 0 rfl) ?_
              refine lv_iload_n hx hb dX8_copy_72 rfl (lv_at hl 3 rfl) ?_
              refine lv_iload hx hb dX8_copy_73 (lv_at hl 4 rfl) ?_
              refine lv_iload hx hb dX8_copy_75 (lv_at hl 5 rfl) ?_
              refine z_cvi ⟨hx, hb, hml, hown, hts⟩ hw h_o0 (kX8_isPart h_o0 hq) (by decide) rfl (cwV 3 hts gX8_copy_X8_isPart rfl rfl rfl (by decide +kernel) ⟨Nat.le_of_ble_eq_true rfl, Nat.le_of_ble_eq_true rfl⟩) rfl hl.1 rfl (Nat.le_of_ble_eq_true rfl) dX8_copy_77 ⟨Nat.zero_le _, Nat.zero_le _⟩ (fun r17 M0 J0 H locs hq hw => ?_)
              obtain ⟨hq, rfl, rfl⟩ := hq
              refine lv_if_ne (tgt := 89) hx hb dX8_copy_80 (by decide) (fun hc => ?_) (fun hc => ?_)
              · have hq := hq.1 hc
                refine lv_iconst (v := (0 : Int32)) hx hb dX8_copy_89 (by decide) ?_
                refine lv_istore (lv' := [(6, .int (0 : Int32)), (0, .ref (ad o0)), (1, .int x1), (2, .int x2), (3, .int x3), (4, .int x4), (5, .int x5)]) hx hb dX8_copy_90 hl (by decide) rfl (fun ls hl => ?_)
                have ex92_126 : ∀ (x20 : Int32) (M21 : zM) (H : Heap) (locs : List Loc) (ls : Array Slot), (∃ fu129 : Nat, lpX8_copy_129 o0 x3 x4 x5 Q fu129 (0 : Int32) M21) → zH D Y ad kd RL M21 J A s.heap H locs s → lv_has ls 7 [(0, .ref (ad o0)), (3, .int x3), (4, .int x4), (5, .int x5)] → W p l e rmX8_copy s m ar below meth c H locs 0 0 QE (F0 m 126 ls []) := by
                  intro x20 M21 H locs ls hq hw hl
                  refine lv_iconst (v := (0 : Int32)) hx hb dX8_copy_126 (by decide) ?_
                  refine lv_istore (lv' := [(6, .int (0 : Int32)), (0, .ref (ad o0)), (3, .int x3), (4, .int x4), (5, .int x5)]) hx hb dX8_copy_127 hl (by decide) rfl (fun ls hl => ?_)
                  obtain ⟨fu129, hq⟩ := hq
                  have lp129 : ∀ (fu129 : Nat) (x22 : Int32) (M23 : zM) (H : Heap) (locs : List Loc) (ls : Array Slot), lpX8_copy_129 o0 x3 x4 x5 Q fu129 x22 M23 → zH D Y ad kd RL M23 J A s.heap H locs s → lv_has ls 7 [(0, .ref (ad o0)), (3, .int x3), (4, .int x4), (5, .int x5), (6, .int x22)] → W p l e rmX8_copy s m ar below meth c H locs 0 0 QE (F0 m 129 ls []) := by
                    intro fu129
                    induction fu129 with
                    | zero => intro x22 M23 H locs ls hq; exact hq.elim
                    | succ fu129 ih129 =>
                      intro x22 M23 H locs ls hq hw hl
                      unfold lpX8_copy_129 at hq
                      refine lv_iload hx hb dX8_copy_129 (lv_at hl 4 rfl) ?_
                      refine lv_iload hx hb dX8_copy_131 (lv_at hl 3 rfl) ?_
                      refine lv_icmp_ge (tgt := 164) hx hb dX8_copy_133 (by decide) (fun hc => ?_) (fun hc => ?_)
                      · have hq := hq.1 hc
                        refine lv_aload_n hx hb dX8_copy_164 rfl (lv_at hl 0 rfl) ?_
                        refine lv_iload hx hb dX8_copy_165 (lv_at hl 3 rfl) ?_
                        refine z_cvi ⟨hx, hb, hml, hown, hts⟩ hw h_o0 (kX8_well h_o0 hq) (by decide) rfl (cwV 1 hts gX8_copy_X8_well rfl rfl rfl (by decide +kernel) ⟨Nat.le_of_ble_eq_true rfl, Nat.le_of_ble_eq_true rfl⟩) rfl hl.1 rfl (Nat.le_of_ble_eq_true rfl) dX8_copy_167 ⟨Nat.zero_le _, Nat.zero_le _⟩ (fun r24 M25 J0 H locs hq hw => ?_)
                        obtain ⟨hq, rfl⟩ := hq
                        exact z_iret hQE hx hb hr hlk hw dX8_copy_170 ⟨hq, rfl⟩
                      · have hq := hq.2 hc
                        refine lv_aload_n hx hb dX8_copy_136 rfl (lv_at hl 0 rfl) ?_
                        refine zg8_items hx hb g8 hown hw h_o0 q4 dX8_copy_137 ?_
                        refine lv_bipush (v := (40 : Int32)) hx hb dX8_copy_140 (by decide) ?_
                        refine lv_iload_n hx hb dX8_copy_142 rfl (lv_at hl 1 rfl) ?_
                        refine lv_imul hx hb dX8_copy_143 ?_
                        refine lv_iload hx hb dX8_copy_144 (lv_at hl 2 rfl) ?_
                        refine lv_iadd hx hb dX8_copy_146 ?_
                        refine lv_iload hx hb dX8_copy_147 (lv_at hl 4 rfl) ?_
                        refine lv_iadd hx hb dX8_copy_149 ?_
                        refine lv_aload_n hx hb dX8_copy_150 rfl (lv_at hl 0 rfl) ?_
                        refine zg8_spare hx hb g8 hown hw h_o0 q3 dX8_copy_151 ?_
                        refine lv_iload hx hb dX8_copy_154 (lv_at hl 4 rfl) ?_
                        obtain ⟨hi, hq⟩ := hq
                        refine z_iald (n := 40) hx hb hw (zk_8_4 hC h_o0) hi dX8_copy_156 ?_
                        obtain ⟨hi, hq⟩ := hq
                        refine z_iast (n := 320) hx hb hw (zk_8_3 hC h_o0) hi dX8_copy_157 (fun H locs hw => ?_)
                        obtain ⟨M26, e_M26⟩ : ∃ y : zM, y = va_up M23 (o0 + 3) (upd (M23 (o0 + 3)) ((((40 : Int32) * x3) + x4) + x22).toNatClampNeg (M23 (o0 + 4) x22.toNatClampNeg)) := ⟨_, rfl⟩
                        rw [← e_M26] at hw
                        have hq := hq M26 e_M26
                        obtain ⟨x27, e_x27⟩ : ∃ y : Int32, y = x22 + (1 : Int32) := ⟨_, rfl⟩
                        have hq := hq x27 e_x27
                        refine lv_iinc (v := x27) (lv' := [(6, .int x27), (0, .ref (ad o0)), (3, .int x3), (4, .int x4), (5, .int x5)]) hx hb dX8_copy_158 hl (k := 4) rfl (by rw [e_x27]; rfl) (by decide) rfl (fun ls hl => ?_)
                        refine lv_goto (tgt := 129) hx hb dX8_copy_161 (by decide) ?_
                        exact ih129 x27 M26 _ _ _ hq hw (lv_sub hl [1, 2, 3, 4, 0] rfl)
                  exact lp129 fu129 (0 : Int32) M21 _ _ _ hq hw (lv_sub hl [1, 2, 3, 4, 0] rfl)
                obtain ⟨fu92, hq⟩ := hq
                have lp92 : ∀ (fu92 : Nat) (x18 : Int32) (M19 : zM) (H : Heap) (locs : List Loc) (ls : Array Slot), lpX8_copy_92 o0 x1 x2 x5 (fun x20 M21 => ∃ fu129 : Nat, lpX8_copy_129 o0 x3 x4 x5 Q fu129 (0 : Int32) M21) fu92 x18 M19 → zH D Y ad kd RL M19 J A s.heap H locs s → lv_has ls 7 [(0, .ref (ad o0)), (1, .int x1), (2, .int x2), (3, .int x3), (4, .int x4), (5, .int x5), (6, .int x18)] → W p l e rmX8_copy s m ar below meth c H locs 0 0 QE (F0 m 92 ls []) := by
                  intro fu92
                  induction fu92 with
                  | zero => intro x18 M19 H locs ls hq; exact hq.elim
                  | succ fu92 ih92 =>
                    intro x18 M19 H locs ls hq hw hl
                    unfold lpX8_copy_92 at hq
                    refine lv_iload hx hb dX8_copy_92 (lv_at hl 6 rfl) ?_
                    refine lv_iload hx hb dX8_copy_94 (lv_at hl 5 rfl) ?_
                    refine lv_icmp_ge (tgt := 126) hx hb dX8_copy_96 (by decide) (fun hc => ?_) (fun hc => ?_)
                    · have hq := hq.1 hc
                      exact ex92_126 x18 M19 _ _ _ hq hw (lv_sub hl [0, 3, 4, 5] rfl)
                    · have hq := hq.2 hc
                      refine lv_aload_n hx hb dX8_copy_99 rfl (lv_at hl 0 rfl) ?_
                      refine zg8_spare hx hb g8 hown hw h_o0 q3 dX8_copy_100 ?_
                      refine lv_iload hx hb dX8_copy_103 (lv_at hl 6 rfl) ?_
                      refine lv_aload_n hx hb dX8_copy_105 rfl (lv_at hl 0 rfl) ?_
                      refine zg8_items hx hb g8 hown hw h_o0 q4 dX8_copy_106 ?_
                      refine lv_bipush (v := (40 : Int32)) hx hb dX8_copy_109 (by decide) ?_
                      refine lv_iload_n hx hb dX8_copy_111 rfl (lv_at hl 1 rfl) ?_
                      refine lv_imul hx hb dX8_copy_112 ?_
                      refine lv_iload_n hx hb dX8_copy_113 rfl (lv_at hl 2 rfl) ?_
                      refine lv_iadd hx hb dX8_copy_114 ?_
                      refine lv_iload hx hb dX8_copy_115 (lv_at hl 6 rfl) ?_
                      refine lv_iadd hx hb dX8_copy_117 ?_
                      obtain ⟨hi, hq⟩ := hq
                      refine z_iald (n := 320) hx hb hw (zk_8_3 hC h_o0) hi dX8_copy_118 ?_
                      refine lv_topi (fun x28 e_x28 => ?_)
                      have hq := hq x28 e_x28
                      obtain ⟨hi, hq⟩ := hq
                      refine z_iast (n := 40) hx hb hw (zk_8_4 hC h_o0) hi dX8_copy_119 (fun H locs hw => ?_)
                      obtain ⟨M29, e_M29⟩ : ∃ y : zM, y = va_up M19 (o0 + 4) (upd (M19 (o0 + 4)) x18.toNatClampNeg x28) := ⟨_, rfl⟩
                      rw [← e_M29] at hw
                      have hq := hq M29 e_M29
                      obtain ⟨x30, e_x30⟩ : ∃ y : Int32, y = x18 + (1 : Int32) := ⟨_, rfl⟩
                      have hq := hq x30 e_x30
                      refine lv_iinc (v := x30) (lv' := [(6, .int x30), (0, .ref (ad o0)), (1, .int x1), (2, .int x2), (3, .int x3), (4, .int x4), (5, .int x5)]) hx hb dX8_copy_120 hl (k := 6) rfl (by rw [e_x30]; rfl) (by decide) rfl (fun ls hl => ?_)
                      refine lv_goto (tgt := 92) hx hb dX8_copy_123 (by decide) ?_
                      exact ih92 x30 M29 _ _ _ hq hw (lv_sub hl [1, 2, 3, 4, 5, 6, 0] rfl)
                exact lp92 fu92 (0 : Int32) M _ _ _ hq hw (lv_sub hl [1, 2, 3, 4, 5, 6, 0] rfl)
              · have hq := hq.2 hc
                refine lv_aload_n hx hb dX8_copy_83 rfl (lv_at hl 0 rfl) ?_
                refine lv_iconst (v := (2 : Int32)) hx hb dX8_copy_84 (by decide) ?_
                refine z_cvi ⟨hx, hb, hml, hown, hts⟩ hw h_o0 (kX8_found h_o0 hq) (by decide) rfl (cwV 1 hts gX8_copy_X8_found rfl rfl rfl (by decide +kernel) ⟨Nat.le_of_ble_eq_true rfl, Nat.le_of_ble_eq_true rfl⟩) rfl hl.1 rfl (Nat.le_of_ble_eq_true rfl) dX8_copy_85 ⟨Nat.zero_le _, Nat.zero_le _⟩ (fun r31 M32 J0 H locs hq hw => ?_)
                obtain ⟨hq, rfl⟩ := hq
                exact z_iret hQE hx hb hr hlk hw dX8_copy_88 ⟨hq, rfl⟩
          · have hq := hq.2 hc
            refine lv_aload_n hx hb dX8_copy_54 rfl (lv_at hl 0 rfl) ?_
            refine lv_iconst (v := (5 : Int32)) hx hb dX8_copy_55 (by decide) ?_
            refine z_cvi ⟨hx, hb, hml, hown, hts⟩ hw h_o0 (kX8_found h_o0 hq) (by decide) rfl (cwV 1 hts gX8_copy_X8_found rfl rfl rfl (by decide +kernel) ⟨Nat.le_of_ble_eq_true rfl, Nat.le_of_ble_eq_true rfl⟩) rfl hl.1 rfl (Nat.le_of_ble_eq_true rfl) dX8_copy_56 ⟨Nat.zero_le _, Nat.zero_le _⟩ (fun r33 M34 J0 H locs hq hw => ?_)
            obtain ⟨hq, rfl⟩ := hq
            exact z_iret hQE hx hb hr hlk hw dX8_copy_59 ⟨hq, rfl⟩
        · have hq := hq.2 hc
          refine lv_aload_n hx hb dX8_copy_33 rfl (lv_at hl 0 rfl) ?_
          refine lv_iconst (v := (1 : Int32)) hx hb dX8_copy_34 (by decide) ?_
          refine z_cvi ⟨hx, hb, hml, hown, hts⟩ hw h_o0 (kX8_found h_o0 hq) (by decide) rfl (cwV 1 hts gX8_copy_X8_found rfl rfl rfl (by decide +kernel) ⟨Nat.le_of_ble_eq_true rfl, Nat.le_of_ble_eq_true rfl⟩) rfl hl.1 rfl (Nat.le_of_ble_eq_true rfl) dX8_copy_35 ⟨Nat.zero_le _, Nat.zero_le _⟩ (fun r35 M36 J0 H locs hq hw => ?_)
          obtain ⟨hq, rfl⟩ := hq
          exact z_iret hQE hx hb hr hlk hw dX8_copy_38 ⟨hq, rfl⟩
    · have hq := hq.2 hc
      refine lv_ldc (v := (-1000001 : Int32)) hx hb hown q1 dX8_copy_14 ?_
      exact z_iret hQE hx hb hr hlk hw dX8_copy_16 ⟨hq, rfl⟩
set_option maxRecDepth 20000 in
theorem ggX8_drop_X8_isRow : GoodIn wsX8_drop wsX8_isRow := goodIn_r _ [8, 9, 10, 7, 11] (by decide +kernel) (by decide +kernel)
set_option maxRecDepth 20000 in
theorem gX8_drop_X8_isRow : GoodIn wsX8_drop (va_wsS RX8 63 yX8_isRow wsX8_isRow) := goodIn_app (goodIn_of _ (by decide +kernel)) ggX8_drop_X8_isRow
set_option maxRecDepth 20000 in
theorem ggX8_drop_X8_isMissing : GoodIn wsX8_drop wsX8_isMissing := goodIn_r _ [15, 2, 3, 26, 27, 28, 29, 30, 31, 32, 33, 34, 35, 36, 37, 38, 39, 40, 41, 42, 43, 44, 45, 46, 47, 48, 49, 50, 51] (by decide +kernel) (by decide +kernel)
set_option maxRecDepth 20000 in
theorem gX8_drop_X8_isMissing : GoodIn wsX8_drop (wsV RX8 75 RX8 yX8_isMissing wsX8_isMissing) := goodIn_app (goodIn_of _ (by decide +kernel)) ggX8_drop_X8_isMissing
set_option maxRecDepth 20000 in
theorem ggX8_drop_X8_found : GoodIn wsX8_drop wsX8_found := goodIn_r _ [19, 20, 21, 26, 27, 28, 29, 30, 31, 32, 33, 34, 35, 36, 37, 38, 39, 40, 41, 42, 43, 44, 45, 46, 47, 48, 49, 50, 51] (by decide +kernel) (by decide +kernel)
set_option maxRecDepth 20000 in
theorem gX8_drop_X8_found : GoodIn wsX8_drop (wsV RX8 68 RX8 yX8_found wsX8_found) := goodIn_app (goodIn_of _ (by decide +kernel)) ggX8_drop_X8_found
set_option maxRecDepth 20000 in
theorem ggX8_drop_X8_well : GoodIn wsX8_drop wsX8_well := goodIn_r _ [25, 20, 26, 27, 28, 29, 30, 31, 32, 33, 34, 35, 36, 37, 38, 39, 40, 41, 42, 43, 44, 45, 46, 47, 48, 49, 50, 51] (by decide +kernel) (by decide +kernel)
set_option maxRecDepth 20000 in
theorem gX8_drop_X8_well : GoodIn wsX8_drop (wsV RX8 72 RX8 yX8_well wsX8_well) := goodIn_app (goodIn_of _ (by decide +kernel)) ggX8_drop_X8_well
theorem dX8_drop_0 : decode cX8_drop 0 = .ok (.iload_n 1, 1) := by decide +kernel
theorem dX8_drop_1 : decode cX8_drop 1 = .ok (.invokestatic 63, 3) := by decide +kernel
theorem dX8_drop_4 : decode cX8_drop 4 = .ok (.ifCond .ne 6, 3) := by decide +kernel
theorem dX8_drop_7 : decode cX8_drop 7 = .ok (.ldc 67, 2) := by decide +kernel
theorem dX8_drop_9 : decode cX8_drop 9 = .ok (.ireturn, 1) := by decide +kernel
theorem dX8_drop_10 : decode cX8_drop 10 = .ok (.aload_n 0, 1) := by decide +kernel
theorem dX8_drop_11 : decode cX8_drop 11 = .ok (.iload_n 1, 1) := by decide +kernel
theorem dX8_drop_12 : decode cX8_drop 12 = .ok (.invokevirtual 75, 3) := by decide +kernel
theorem dX8_drop_15 : decode cX8_drop 15 = .ok (.ifCond .eq 9, 3) := by decide +kernel
theorem dX8_drop_18 : decode cX8_drop 18 = .ok (.aload_n 0, 1) := by decide +kernel
theorem dX8_drop_19 : decode cX8_drop 19 = .ok (.iconst 1, 1) := by decide +kernel
theorem dX8_drop_20 : decode cX8_drop 20 = .ok (.invokevirtual 68, 3) := by decide +kernel
theorem dX8_drop_23 : decode cX8_drop 23 = .ok (.ireturn, 1) := by decide +kernel
theorem dX8_drop_24 : decode cX8_drop 24 = .ok (.aload_n 0, 1) := by decide +kernel
theorem dX8_drop_25 : decode cX8_drop 25 = .ok (.getfield 7, 3) := by decide +kernel
theorem dX8_drop_28 : decode cX8_drop 28 = .ok (.iload_n 1, 1) := by decide +kernel
theorem dX8_drop_29 : decode cX8_drop 29 = .ok (.ldc 53, 2) := by decide +kernel
theorem dX8_drop_31 : decode cX8_drop 31 = .ok (.iastore, 1) := by decide +kernel
theorem dX8_drop_32 : decode cX8_drop 32 = .ok (.aload_n 0, 1) := by decide +kernel
theorem dX8_drop_33 : decode cX8_drop 33 = .ok (.aload_n 0, 1) := by decide +kernel
theorem dX8_drop_34 : decode cX8_drop 34 = .ok (.getfield 13, 3) := by decide +kernel
theorem dX8_drop_37 : decode cX8_drop 37 = .ok (.iload_n 1, 1) := by decide +kernel
theorem dX8_drop_38 : decode cX8_drop 38 = .ok (.iaload, 1) := by decide +kernel
theorem dX8_drop_39 : decode cX8_drop 39 = .ok (.invokevirtual 72, 3) := by decide +kernel
theorem dX8_drop_42 : decode cX8_drop 42 = .ok (.ireturn, 1) := by decide +kernel
def rmX8_drop : Room := { frames := 2, cells := 0, slots := 0, locals := 42 }
def wX8_drop (M : zM) (o0 : Nat) (x1 : Int32) (Q : Int32 → zM → Prop) : Prop :=
    wX8_isRow M x1 (fun r4 =>
    ((¬ r4 = 0) → (
    wX8_isMissing M o0 x1 (fun r5 =>
    ((r5 = 0) → (
    vp_in x1 8 ∧
    ∀ M6 : zM, M6 = va_up M (o0 + 1) (upd (M (o0 + 1)) x1.toNatClampNeg (-1000000 : Int32)) →
    vp_in x1 8 ∧
    wX8_well M6 o0 (M6 (o0 + 2) x1.toNatClampNeg) (fun r7 M8 =>
    Q r7 M8))) ∧
    ((¬ r5 = 0) → (
    wX8_found M o0 (1 : Int32) (fun r9 M10 =>
    Q r9 M10)))))) ∧
    ((r4 = 0) → (
    Q (-1000001 : Int32) M)))
set_option maxHeartbeats 4000000 in
set_option maxRecDepth 100000 in
theorem kX8_drop {l : Launch} {D : va_G} {Y : zY} {ad kd : Nat → Nat} {RL : List Nat} {M : zM} {J : zL} {o0 : Nat} {x1 : Int32} (h_o0 : kd o0 = 8) {Q : Int32 → zM → Prop} (hq : wX8_drop M o0 x1 Q) : zCi l yX8_drop wsX8_drop rmX8_drop [.ref (ad o0), .int x1] D Y ad kd RL M J (fun r M' J' => Q r M' ∧ J = J') := by
  refine z_meti (cc := cX8_drop) (maxL := 2) (ret := (some .int)) (by decide) rfl (Nat.le_of_ble_eq_true rfl) ?_
  intro p e s m below meth c ls A ar QE hQE hx hb hr hml hown hts hlk hw hl
  have hown : s.vm.findClass RX8 = some m.cls := hown
  have hl : lv_has ls 2 [(0, .ref (ad o0)), (1, .int x1)] := hl
  have hC := hw.2.2.2.2.2.1
  have g8 : ∀ w ∈ wsX80, w.before ar s = true := (fun w h => hts w (List.mem_cons_of_mem _ (List.mem_append_right _ h)))
  have q1 := hts _ (List.mem_of_getElem? (i := 1) rfl)
  have q2 := hts _ (List.mem_of_getElem? (i := 2) rfl)
  have q3 := hts _ (List.mem_of_getElem? (i := 3) rfl)
  have q4 := hts _ (List.mem_of_getElem? (i := 4) rfl)
  unfold wX8_drop at hq
  refine lv_iload_n hx hb dX8_drop_0 rfl (lv_at hl 1 rfl) ?_
  refine z_csi ⟨hx, hb, hml, hown, hts⟩ hw (kX8_isRow  hq) (va_cwS 1 hts gX8_drop_X8_isRow rfl rfl rfl (by decide +kernel) ⟨Nat.le_of_ble_eq_true rfl, Nat.le_of_ble_eq_true rfl⟩) rfl hl.1 rfl (Nat.le_of_ble_eq_true rfl) dX8_drop_1 ⟨Nat.zero_le _, Nat.zero_le _⟩ (fun r4 M0 J0 H locs hq hw => ?_)
  obtain ⟨hq, rfl, rfl⟩ := hq
  refine lv_if_ne (tgt := 10) hx hb dX8_drop_4 (by decide) (fun hc => ?_) (fun hc => ?_)
  · have hq := hq.1 hc
    refine lv_aload_n hx hb dX8_drop_10 rfl (lv_at hl 0 rfl) ?_
    refine lv_iload_n hx hb dX8_drop_11 rfl (lv_at hl 1 rfl) ?_
    refine z_cvi ⟨hx, hb, hml, hown, hts⟩ hw h_o0 (kX8_isMissing h_o0 hq) (by decide) rfl (cwV 1 hts gX8_drop_X8_isMissing rfl rfl rfl (by decide +kernel) ⟨Nat.le_of_ble_eq_true rfl, Nat.le_of_ble_eq_true rfl⟩) rfl hl.1 rfl (Nat.le_of_ble_eq_true rfl) dX8_drop_12 ⟨Nat.zero_le _, Nat.zero_le _⟩ (fun r5 M0 J0 H locs hq hw => ?_)
    obtain ⟨hq, rfl, rfl⟩ := hq
    refine lv_if_eq (tgt := 24) hx hb dX8_drop_15 (by decide) (fun hc => ?_) (fun hc => ?_)
    · have hq := hq.1 hc
      refine lv_aload_n hx hb dX8_drop_24 rfl (lv_at hl 0 rfl) ?_
      refine zg8_lane hx hb g8 hown hw h_o0 q2 dX8_drop_25 ?_
      refine lv_iload_n hx hb dX8_drop_28 rfl (lv_at hl 1 rfl) ?_
      refine lv_ldc (v := (-1000000 : Int32)) hx hb hown q3 dX8_drop_29 ?_
      obtain ⟨hi, hq⟩ := hq
      refine z_iast (n := 8) hx hb hw (zk_8_1 hC h_o0) hi dX8_drop_31 (fun H locs hw => ?_)
      obtain ⟨M6, e_M6⟩ : ∃ y : zM, y = va_up M (o0 + 1) (upd (M (o0 + 1)) x1.toNatClampNeg (-1000000 : Int32)) := ⟨_, rfl⟩
      rw [← e_M6] at hw
      have hq := hq M6 e_M6
      refine lv_aload_n hx hb dX8_drop_32 rfl (lv_at hl 0 rfl) ?_
      refine lv_aload_n hx hb dX8_drop_33 rfl (lv_at hl 0 rfl) ?_
      refine zg8_many hx hb g8 hown hw h_o0 q4 dX8_drop_34 ?_
      refine lv_iload_n hx hb dX8_drop_37 rfl (lv_at hl 1 rfl) ?_
      obtain ⟨hi, hq⟩ := hq
      refine z_iald (n := 8) hx hb hw (zk_8_2 hC h_o0) hi dX8_drop_38 ?_
      refine z_cvi ⟨hx, hb, hml, hown, hts⟩ hw h_o0 (kX8_well h_o0 hq) (by decide) rfl (cwV 1 hts gX8_drop_X8_well rfl rfl rfl (by decide +kernel) ⟨Nat.le_of_ble_eq_true rfl, Nat.le_of_ble_eq_true rfl⟩) rfl hl.1 rfl (Nat.le_of_ble_eq_true rfl) dX8_drop_39 ⟨Nat.zero_le _, Nat.zero_le _⟩ (fun r7 M8 J0 H locs hq hw => ?_)
      obtain ⟨hq, rfl⟩ := hq
      exact z_iret hQE hx hb hr hlk hw dX8_drop_42 ⟨hq, rfl⟩
    · have hq := hq.2 hc
      refine lv_aload_n hx hb dX8_drop_18 rfl (lv_at hl 0 rfl) ?_
      refine lv_iconst (v := (1 : Int32)) hx hb dX8_drop_19 (by decide) ?_
      refine z_cvi ⟨hx, hb, hml, hown, hts⟩ hw h_o0 (kX8_found h_o0 hq) (by decide) rfl (cwV 1 hts gX8_drop_X8_found rfl rfl rfl (by decide +kernel) ⟨Nat.le_of_ble_eq_true rfl, Nat.le_of_ble_eq_true rfl⟩) rfl hl.1 rfl (Nat.le_of_ble_eq_true rfl) dX8_drop_20 ⟨Nat.zero_le _, Nat.zero_le _⟩ (fun r9 M10 J0 H locs hq hw => ?_)
      obtain ⟨hq, rfl⟩ := hq
      exact z_iret hQE hx hb hr hlk hw dX8_drop_23 ⟨hq, rfl⟩
  · have hq := hq.2 hc
    refine lv_ldc (v := (-1000001 : Int32)) hx hb hown q1 dX8_drop_7 ?_
    exact z_iret hQE hx hb hr hlk hw dX8_drop_9 ⟨hq, rfl⟩
set_option maxRecDepth 20000 in
theorem ggX8_feed_X8_in : GoodIn wsX8_feed wsX8_in := goodIn_r _ [8] (by decide +kernel) (by decide +kernel)
set_option maxRecDepth 20000 in
theorem gX8_feed_X8_in : GoodIn wsX8_feed (va_wsS RX8 59 yX8_in wsX8_in) := goodIn_app (goodIn_of _ (by decide +kernel)) ggX8_feed_X8_in
theorem dX8_feed_0 : decode cX8_feed 0 = .ok (.iload_n 1, 1) := by decide +kernel
theorem dX8_feed_1 : decode cX8_feed 1 = .ok (.iconst 0, 1) := by decide +kernel
theorem dX8_feed_2 : decode cX8_feed 2 = .ok (.sipush 255, 3) := by decide +kernel
theorem dX8_feed_5 : decode cX8_feed 5 = .ok (.invokestatic 59, 3) := by decide +kernel
theorem dX8_feed_8 : decode cX8_feed 8 = .ok (.ifCond .ne 6, 3) := by decide +kernel
theorem dX8_feed_11 : decode cX8_feed 11 = .ok (.ldc 67, 2) := by decide +kernel
theorem dX8_feed_13 : decode cX8_feed 13 = .ok (.ireturn, 1) := by decide +kernel
theorem dX8_feed_14 : decode cX8_feed 14 = .ok (.aload_n 0, 1) := by decide +kernel
theorem dX8_feed_15 : decode cX8_feed 15 = .ok (.getfield 85, 3) := by decide +kernel
theorem dX8_feed_18 : decode cX8_feed 18 = .ok (.bipush 120, 2) := by decide +kernel
theorem dX8_feed_20 : decode cX8_feed 20 = .ok (.if_icmp .ne 6, 3) := by decide +kernel
theorem dX8_feed_23 : decode cX8_feed 23 = .ok (.ldc 88, 2) := by decide +kernel
theorem dX8_feed_25 : decode cX8_feed 25 = .ok (.ireturn, 1) := by decide +kernel
theorem dX8_feed_26 : decode cX8_feed 26 = .ok (.aload_n 0, 1) := by decide +kernel
theorem dX8_feed_27 : decode cX8_feed 27 = .ok (.getfield 22, 3) := by decide +kernel
theorem dX8_feed_30 : decode cX8_feed 30 = .ok (.aload_n 0, 1) := by decide +kernel
theorem dX8_feed_31 : decode cX8_feed 31 = .ok (.getfield 85, 3) := by decide +kernel
theorem dX8_feed_34 : decode cX8_feed 34 = .ok (.iload_n 1, 1) := by decide +kernel
theorem dX8_feed_35 : decode cX8_feed 35 = .ok (.iastore, 1) := by decide +kernel
theorem dX8_feed_36 : decode cX8_feed 36 = .ok (.aload_n 0, 1) := by decide +kernel
theorem dX8_feed_37 : decode cX8_feed 37 = .ok (.dup, 1) := by decide +kernel
theorem dX8_feed_38 : decode cX8_feed 38 = .ok (.getfield 85, 3) := by decide +kernel
theorem dX8_feed_41 : decode cX8_feed 41 = .ok (.iconst 1, 1) := by decide +kernel
theorem dX8_feed_42 : decode cX8_feed 42 = .ok (.iadd, 1) := by decide +kernel
theorem dX8_feed_43 : decode cX8_feed 43 = .ok (.putfield 85, 3) := by decide +kernel
theorem dX8_feed_46 : decode cX8_feed 46 = .ok (.aload_n 0, 1) := by decide +kernel
theorem dX8_feed_47 : decode cX8_feed 47 = .ok (.getfield 85, 3) := by decide +kernel
theorem dX8_feed_50 : decode cX8_feed 50 = .ok (.ireturn, 1) := by decide +kernel
def rmX8_feed : Room := { frames := 1, cells := 0, slots := 0, locals := 22 }
def wX8_feed (M : zM) (o0 : Nat) (x1 : Int32) (Q : Int32 → zM → Prop) : Prop :=
    wX8_in M x1 (0 : Int32) (255 : Int32) (fun r4 =>
    ((¬ r4 = 0) → (
    ((¬ (M o0 1) = (120 : Int32)) → (
    vp_in (M o0 1) 120 ∧
    ∀ M5 : zM, M5 = va_up M (o0 + 5) (upd (M (o0 + 5)) (M o0 1).toNatClampNeg x1) →
    ∀ M6 : zM, M6 = va_up M5 o0 (upd (M5 o0) 1 ((M5 o0 1) + (1 : Int32))) →
    Q (M6 o0 1) M6)) ∧
    (((M o0 1) = (120 : Int32)) → (
    Q (-1000003 : Int32) M)))) ∧
    ((r4 = 0) → (
    Q (-1000001 : Int32) M)))
set_option maxHeartbeats 4000000 in
set_option maxRecDepth 100000 in
theorem kX8_feed {l : Launch} {D : va_G} {Y : zY} {ad kd : Nat → Nat} {RL : List Nat} {M : zM} {J : zL} {o0 : Nat} {x1 : Int32} (h_o0 : kd o0 = 8) {Q : Int32 → zM → Prop} (hq : wX8_feed M o0 x1 Q) : zCi l yX8_feed wsX8_feed rmX8_feed [.ref (ad o0), .int x1] D Y ad kd RL M J (fun r M' J' => Q r M' ∧ J = J') := by
  refine z_meti (cc := cX8_feed) (maxL := 2) (ret := (some .int)) (by decide) rfl (Nat.le_of_ble_eq_true rfl) ?_
  intro p e s m below meth c ls A ar QE hQE hx hb hr hml hown hts hlk hw hl
  have hown : s.vm.findClass RX8 = some m.cls := hown
  have hl : lv_has ls 2 [(0, .ref (ad o0)), (1, .int x1)] := hl
  have hC := hw.2.2.2.2.2.1
  have g8 : ∀ w ∈ wsX80, w.before ar s = true := (fun w h => hts w (List.mem_cons_of_mem _ (List.mem_append_right _ h)))
  have q1 := hts _ (List.mem_of_getElem? (i := 1) rfl)
  have q2 := hts _ (List.mem_of_getElem? (i := 2) rfl)
  have q3 := hts _ (List.mem_of_getElem? (i := 3) rfl)
  have q4 := hts _ (List.mem_of_getElem? (i := 4) rfl)
  unfold wX8_feed at hq
  refine lv_iload_n hx hb dX8_feed_0 rfl (lv_at hl 1 rfl) ?_
  refine lv_iconst (v := (0 : Int32)) hx hb dX8_feed_1 (by decide) ?_
  refine lv_sipush (v := (255 : Int32)) hx hb dX8_feed_2 (by decide) ?_
  refine z_csi ⟨hx, hb, hml, hown, hts⟩ hw (kX8_in  hq) (va_cwS 3 hts gX8_feed_X8_in rfl rfl rfl (by decide +kernel) ⟨Nat.le_of_ble_eq_true rfl, Nat.le_of_ble_eq_true rfl⟩) rfl hl.1 rfl (Nat.le_of_ble_eq_true rfl) dX8_feed_5 ⟨Nat.zero_le _, Nat.zero_le _⟩ (fun r4 M0 J0 H locs hq hw => ?_)
  obtain ⟨hq, rfl, rfl⟩ := hq
  refine lv_if_ne (tgt := 14) hx hb dX8_feed_8 (by decide) (fun hc => ?_) (fun hc => ?_)
  · have hq := hq.1 hc
    refine lv_aload_n hx hb dX8_feed_14 rfl (lv_at hl 0 rfl) ?_
    refine zg8_taped hx hb g8 hown hw h_o0 q2 dX8_feed_15 ?_
    refine lv_bipush (v := (120 : Int32)) hx hb dX8_feed_18 (by decide) ?_
    refine lv_icmp_ne (tgt := 26) hx hb dX8_feed_20 (by decide) (fun hc => ?_) (fun hc => ?_)
    · have hq := hq.1 hc
      refine lv_aload_n hx hb dX8_feed_26 rfl (lv_at hl 0 rfl) ?_
      refine zg8_tape hx hb g8 hown hw h_o0 q4 dX8_feed_27 ?_
      refine lv_aload_n hx hb dX8_feed_30 rfl (lv_at hl 0 rfl) ?_
      refine zg8_taped hx hb g8 hown hw h_o0 q2 dX8_feed_31 ?_
      refine lv_iload_n hx hb dX8_feed_34 rfl (lv_at hl 1 rfl) ?_
      obtain ⟨hi, hq⟩ := hq
      refine z_iast (n := 120) hx hb hw (zk_8_5 hC h_o0) hi dX8_feed_35 (fun H locs hw => ?_)
      obtain ⟨M5, e_M5⟩ : ∃ y : zM, y = va_up M (o0 + 5) (upd (M (o0 + 5)) (M o0 1).toNatClampNeg x1) := ⟨_, rfl⟩
      rw [← e_M5] at hw
      have hq := hq M5 e_M5
      refine lv_aload_n hx hb dX8_feed_36 rfl (lv_at hl 0 rfl) ?_
      refine lv_dup hx hb dX8_feed_37 rfl ?_
      refine zg8_taped hx hb g8 hown hw h_o0 q2 dX8_feed_38 ?_
      refine lv_iconst (v := (1 : Int32)) hx hb dX8_feed_41 (by decide) ?_
      refine lv_iadd hx hb dX8_feed_42 ?_
      refine zp8_taped hx hb g8 hown hw h_o0 q2 dX8_feed_43 (fun H locs hw => ?_)
      obtain ⟨M6, e_M6⟩ : ∃ y : zM, y = va_up M5 o0 (upd (M5 o0) 1 ((M5 o0 1) + (1 : Int32))) := ⟨_, rfl⟩
      rw [← e_M6] at hw
      have hq := hq M6 e_M6
      refine lv_aload_n hx hb dX8_feed_46 rfl (lv_at hl 0 rfl) ?_
      refine zg8_taped hx hb g8 hown hw h_o0 q2 dX8_feed_47 ?_
      exact z_iret hQE hx hb hr hlk hw dX8_feed_50 ⟨hq, rfl⟩
    · have hq := hq.2 hc
      refine lv_ldc (v := (-1000003 : Int32)) hx hb hown q3 dX8_feed_23 ?_
      exact z_iret hQE hx hb hr hlk hw dX8_feed_25 ⟨hq, rfl⟩
  · have hq := hq.2 hc
    refine lv_ldc (v := (-1000001 : Int32)) hx hb hown q1 dX8_feed_11 ?_
    exact z_iret hQE hx hb hr hlk hw dX8_feed_13 ⟨hq, rfl⟩
theorem dX8_byteAt_0 : decode cX8_byteAt 0 = .ok (.iload_n 1, 1) := by decide +kernel
theorem dX8_byteAt_1 : decode cX8_byteAt 1 = .ok (.aload_n 0, 1) := by decide +kernel
theorem dX8_byteAt_2 : decode cX8_byteAt 2 = .ok (.getfield 85, 3) := by decide +kernel
theorem dX8_byteAt_5 : decode cX8_byteAt 5 = .ok (.if_icmp .ge 12, 3) := by decide +kernel
theorem dX8_byteAt_8 : decode cX8_byteAt 8 = .ok (.aload_n 0, 1) := by decide +kernel
theorem dX8_byteAt_9 : decode cX8_byteAt 9 = .ok (.getfield 22, 3) := by decide +kernel
theorem dX8_byteAt_12 : decode cX8_byteAt 12 = .ok (.iload_n 1, 1) := by decide +kernel
theorem dX8_byteAt_13 : decode cX8_byteAt 13 = .ok (.iaload, 1) := by decide +kernel
theorem dX8_byteAt_14 : decode cX8_byteAt 14 = .ok (.goto 4, 3) := by decide +kernel
theorem dX8_byteAt_17 : decode cX8_byteAt 17 = .ok (.iconst (-1), 1) := by decide +kernel
theorem dX8_byteAt_18 : decode cX8_byteAt 18 = .ok (.ireturn, 1) := by decide +kernel
def rmX8_byteAt : Room := { frames := 0, cells := 0, slots := 0, locals := 0 }
def wX8_byteAt (M : zM) (o0 : Nat) (x1 : Int32) (Q : Int32 → Prop) : Prop :=
    (((M o0 1) ≤ x1) → (
    Q (-1 : Int32))) ∧
    ((¬ (M o0 1) ≤ x1) → (
    vp_in x1 120 ∧
    Q (M (o0 + 5) x1.toNatClampNeg)))
set_option maxHeartbeats 4000000 in
set_option maxRecDepth 100000 in
theorem kX8_byteAt {l : Launch} {D : va_G} {Y : zY} {ad kd : Nat → Nat} {RL : List Nat} {M : zM} {J : zL} {o0 : Nat} {x1 : Int32} (h_o0 : kd o0 = 8) {Q : Int32 → Prop} (hq : wX8_byteAt M o0 x1 Q) : zCi l yX8_byteAt wsX8_byteAt rmX8_byteAt [.ref (ad o0), .int x1] D Y ad kd RL M J (fun r M' J' => Q r ∧ M = M' ∧ J = J') := by
  refine z_meti (cc := cX8_byteAt) (maxL := 2) (ret := (some .int)) (by decide) rfl (Nat.le_of_ble_eq_true rfl) ?_
  intro p e s m below meth c ls A ar QE hQE hx hb hr hml hown hts hlk hw hl
  have hown : s.vm.findClass RX8 = some m.cls := hown
  have hl : lv_has ls 2 [(0, .ref (ad o0)), (1, .int x1)] := hl
  have hC := hw.2.2.2.2.2.1
  have g8 : ∀ w ∈ wsX80, w.before ar s = true := (fun w h => hts w (List.mem_cons_of_mem _ (List.mem_append_right _ h)))
  have q1 := hts _ (List.mem_of_getElem? (i := 1) rfl)
  have q2 := hts _ (List.mem_of_getElem? (i := 2) rfl)
  unfold wX8_byteAt at hq
  refine lv_iload_n hx hb dX8_byteAt_0 rfl (lv_at hl 1 rfl) ?_
  refine lv_aload_n hx hb dX8_byteAt_1 rfl (lv_at hl 0 rfl) ?_
  refine zg8_taped hx hb g8 hown hw h_o0 q1 dX8_byteAt_2 ?_
  refine lv_icmp_ge (tgt := 17) hx hb dX8_byteAt_5 (by decide) (fun hc => ?_) (fun hc => ?_)
  · have hq := hq.1 hc
    refine lv_iconst (v := (-1 : Int32)) hx hb dX8_byteAt_17 (by decide) ?_
    exact z_iret hQE hx hb hr hlk hw dX8_byteAt_18 ⟨hq, rfl, rfl⟩
  · have hq := hq.2 hc
    refine lv_aload_n hx hb dX8_byteAt_8 rfl (lv_at hl 0 rfl) ?_
    refine zg8_tape hx hb g8 hown hw h_o0 q2 dX8_byteAt_9 ?_
    refine lv_iload_n hx hb dX8_byteAt_12 rfl (lv_at hl 1 rfl) ?_
    obtain ⟨hi, hq⟩ := hq
    refine z_iald (n := 120) hx hb hw (zk_8_5 hC h_o0) hi dX8_byteAt_13 ?_
    refine lv_goto (tgt := 18) hx hb dX8_byteAt_14 (by decide) ?_
    exact z_iret hQE hx hb hr hlk hw dX8_byteAt_18 ⟨hq, rfl, rfl⟩
set_option maxRecDepth 20000 in
theorem ggX8_advances_X8_byteAt : GoodIn wsX8_advances wsX8_byteAt := goodIn_r _ [9, 10, 11, 15, 16, 17, 18, 19, 20, 21, 22, 23, 24, 25, 26, 27, 28, 29, 30, 31, 32, 33, 34, 35, 36, 37, 38, 39, 40] (by decide +kernel) (by decide +kernel)
set_option maxRecDepth 20000 in
theorem gX8_advances_X8_byteAt : GoodIn wsX8_advances (wsV RX8 95 RX8 yX8_byteAt wsX8_byteAt) := goodIn_app (goodIn_of _ (by decide +kernel)) ggX8_advances_X8_byteAt
set_option maxRecDepth 20000 in
theorem ggX8_advances_X8_in : GoodIn wsX8_advances wsX8_in := goodIn_r _ [14] (by decide +kernel) (by decide +kernel)
set_option maxRecDepth 20000 in
theorem gX8_advances_X8_in : GoodIn wsX8_advances (va_wsS RX8 59 yX8_in wsX8_in) := goodIn_app (goodIn_of _ (by decide +kernel)) ggX8_advances_X8_in
theorem dX8_advances_0 : decode cX8_advances 0 = .ok (.aload_n 0, 1) := by decide +kernel
theorem dX8_advances_1 : decode cX8_advances 1 = .ok (.aload_n 0, 1) := by decide +kernel
theorem dX8_advances_2 : decode cX8_advances 2 = .ok (.getfield 89, 3) := by decide +kernel
theorem dX8_advances_5 : decode cX8_advances 5 = .ok (.putfield 92, 3) := by decide +kernel
theorem dX8_advances_8 : decode cX8_advances 8 = .ok (.aload_n 0, 1) := by decide +kernel
theorem dX8_advances_9 : decode cX8_advances 9 = .ok (.aload_n 0, 1) := by decide +kernel
theorem dX8_advances_10 : decode cX8_advances 10 = .ok (.getfield 89, 3) := by decide +kernel
theorem dX8_advances_13 : decode cX8_advances 13 = .ok (.invokevirtual 95, 3) := by decide +kernel
theorem dX8_advances_16 : decode cX8_advances 16 = .ok (.istore_n 1, 1) := by decide +kernel
theorem dX8_advances_17 : decode cX8_advances 17 = .ok (.aload_n 0, 1) := by decide +kernel
theorem dX8_advances_18 : decode cX8_advances 18 = .ok (.iload_n 1, 1) := by decide +kernel
theorem dX8_advances_19 : decode cX8_advances 19 = .ok (.putfield 98, 3) := by decide +kernel
theorem dX8_advances_22 : decode cX8_advances 22 = .ok (.iload_n 1, 1) := by decide +kernel
theorem dX8_advances_23 : decode cX8_advances 23 = .ok (.bipush 48, 2) := by decide +kernel
theorem dX8_advances_25 : decode cX8_advances 25 = .ok (.bipush 57, 2) := by decide +kernel
theorem dX8_advances_27 : decode cX8_advances 27 = .ok (.invokestatic 59, 3) := by decide +kernel
theorem dX8_advances_30 : decode cX8_advances 30 = .ok (.ifCond .eq 105, 3) := by decide +kernel
theorem dX8_advances_33 : decode cX8_advances 33 = .ok (.aload_n 0, 1) := by decide +kernel
theorem dX8_advances_34 : decode cX8_advances 34 = .ok (.iconst 0, 1) := by decide +kernel
theorem dX8_advances_35 : decode cX8_advances 35 = .ok (.putfield 98, 3) := by decide +kernel
theorem dX8_advances_38 : decode cX8_advances 38 = .ok (.aload_n 0, 1) := by decide +kernel
theorem dX8_advances_39 : decode cX8_advances 39 = .ok (.aload_n 0, 1) := by decide +kernel
theorem dX8_advances_40 : decode cX8_advances 40 = .ok (.getfield 89, 3) := by decide +kernel
theorem dX8_advances_43 : decode cX8_advances 43 = .ok (.invokevirtual 95, 3) := by decide +kernel
theorem dX8_advances_46 : decode cX8_advances 46 = .ok (.bipush 48, 2) := by decide +kernel
theorem dX8_advances_48 : decode cX8_advances 48 = .ok (.bipush 57, 2) := by decide +kernel
theorem dX8_advances_50 : decode cX8_advances 50 = .ok (.invokestatic 59, 3) := by decide +kernel
theorem dX8_advances_53 : decode cX8_advances 53 = .ok (.ifCond .eq 59, 3) := by decide +kernel
theorem dX8_advances_56 : decode cX8_advances 56 = .ok (.aload_n 0, 1) := by decide +kernel
theorem dX8_advances_57 : decode cX8_advances 57 = .ok (.aload_n 0, 1) := by decide +kernel
theorem dX8_advances_58 : decode cX8_advances 58 = .ok (.getfield 89, 3) := by decide +kernel
theorem dX8_advances_61 : decode cX8_advances 61 = .ok (.aload_n 0, 1) := by decide +kernel
theorem dX8_advances_62 : decode cX8_advances 62 = .ok (.getfield 92, 3) := by decide +kernel
theorem dX8_advances_65 : decode cX8_advances 65 = .ok (.isub, 1) := by decide +kernel
theorem dX8_advances_66 : decode cX8_advances 66 = .ok (.iconst 2, 1) := by decide +kernel
theorem dX8_advances_67 : decode cX8_advances 67 = .ok (.if_icmp .ge 25, 3) := by decide +kernel
theorem dX8_advances_70 : decode cX8_advances 70 = .ok (.bipush 10, 2) := by decide +kernel
theorem dX8_advances_72 : decode cX8_advances 72 = .ok (.aload_n 0, 1) := by decide +kernel
theorem dX8_advances_73 : decode cX8_advances 73 = .ok (.getfield 98, 3) := by decide +kernel
theorem dX8_advances_76 : decode cX8_advances 76 = .ok (.imul, 1) := by decide +kernel
theorem dX8_advances_77 : decode cX8_advances 77 = .ok (.aload_n 0, 1) := by decide +kernel
theorem dX8_advances_78 : decode cX8_advances 78 = .ok (.aload_n 0, 1) := by decide +kernel
theorem dX8_advances_79 : decode cX8_advances 79 = .ok (.getfield 89, 3) := by decide +kernel
theorem dX8_advances_82 : decode cX8_advances 82 = .ok (.invokevirtual 95, 3) := by decide +kernel
theorem dX8_advances_85 : decode cX8_advances 85 = .ok (.iadd, 1) := by decide +kernel
theorem dX8_advances_86 : decode cX8_advances 86 = .ok (.bipush 48, 2) := by decide +kernel
theorem dX8_advances_88 : decode cX8_advances 88 = .ok (.isub, 1) := by decide +kernel
theorem dX8_advances_89 : decode cX8_advances 89 = .ok (.goto 7, 3) := by decide +kernel
theorem dX8_advances_92 : decode cX8_advances 92 = .ok (.aload_n 0, 1) := by decide +kernel
theorem dX8_advances_93 : decode cX8_advances 93 = .ok (.getfield 98, 3) := by decide +kernel
theorem dX8_advances_96 : decode cX8_advances 96 = .ok (.putfield 98, 3) := by decide +kernel
theorem dX8_advances_99 : decode cX8_advances 99 = .ok (.aload_n 0, 1) := by decide +kernel
theorem dX8_advances_100 : decode cX8_advances 100 = .ok (.dup, 1) := by decide +kernel
theorem dX8_advances_101 : decode cX8_advances 101 = .ok (.getfield 89, 3) := by decide +kernel
theorem dX8_advances_104 : decode cX8_advances 104 = .ok (.iconst 1, 1) := by decide +kernel
theorem dX8_advances_105 : decode cX8_advances 105 = .ok (.iadd, 1) := by decide +kernel
theorem dX8_advances_106 : decode cX8_advances 106 = .ok (.putfield 89, 3) := by decide +kernel
theorem dX8_advances_109 : decode cX8_advances 109 = .ok (.goto (-71), 3) := by decide +kernel
theorem dX8_advances_112 : decode cX8_advances 112 = .ok (.aload_n 0, 1) := by decide +kernel
theorem dX8_advances_113 : decode cX8_advances 113 = .ok (.aload_n 0, 1) := by decide +kernel
theorem dX8_advances_114 : decode cX8_advances 114 = .ok (.getfield 89, 3) := by decide +kernel
theorem dX8_advances_117 : decode cX8_advances 117 = .ok (.aload_n 0, 1) := by decide +kernel
theorem dX8_advances_118 : decode cX8_advances 118 = .ok (.getfield 92, 3) := by decide +kernel
theorem dX8_advances_121 : decode cX8_advances 121 = .ok (.isub, 1) := by decide +kernel
theorem dX8_advances_122 : decode cX8_advances 122 = .ok (.iconst 3, 1) := by decide +kernel
theorem dX8_advances_123 : decode cX8_advances 123 = .ok (.if_icmp .ge 7, 3) := by decide +kernel
theorem dX8_advances_126 : decode cX8_advances 126 = .ok (.iconst 2, 1) := by decide +kernel
theorem dX8_advances_127 : decode cX8_advances 127 = .ok (.goto 4, 3) := by decide +kernel
theorem dX8_advances_130 : decode cX8_advances 130 = .ok (.iconst 5, 1) := by decide +kernel
theorem dX8_advances_131 : decode cX8_advances 131 = .ok (.putfield 101, 3) := by decide +kernel
theorem dX8_advances_134 : decode cX8_advances 134 = .ok (.return_, 1) := by decide +kernel
theorem dX8_advances_135 : decode cX8_advances 135 = .ok (.aload_n 0, 1) := by decide +kernel
theorem dX8_advances_136 : decode cX8_advances 136 = .ok (.iload_n 1, 1) := by decide +kernel
theorem dX8_advances_137 : decode cX8_advances 137 = .ok (.ifCond .ge 7, 3) := by decide +kernel
theorem dX8_advances_140 : decode cX8_advances 140 = .ok (.iconst 0, 1) := by decide +kernel
theorem dX8_advances_141 : decode cX8_advances 141 = .ok (.goto 39, 3) := by decide +kernel
theorem dX8_advances_144 : decode cX8_advances 144 = .ok (.iload_n 1, 1) := by decide +kernel
theorem dX8_advances_145 : decode cX8_advances 145 = .ok (.bipush 97, 2) := by decide +kernel
theorem dX8_advances_147 : decode cX8_advances 147 = .ok (.bipush 122, 2) := by decide +kernel
theorem dX8_advances_149 : decode cX8_advances 149 = .ok (.invokestatic 59, 3) := by decide +kernel
theorem dX8_advances_152 : decode cX8_advances 152 = .ok (.ifCond .eq 7, 3) := by decide +kernel
theorem dX8_advances_155 : decode cX8_advances 155 = .ok (.iconst 1, 1) := by decide +kernel
theorem dX8_advances_156 : decode cX8_advances 156 = .ok (.goto 24, 3) := by decide +kernel
theorem dX8_advances_159 : decode cX8_advances 159 = .ok (.iload_n 1, 1) := by decide +kernel
theorem dX8_advances_160 : decode cX8_advances 160 = .ok (.bipush 44, 2) := by decide +kernel
theorem dX8_advances_162 : decode cX8_advances 162 = .ok (.if_icmp .ne 7, 3) := by decide +kernel
theorem dX8_advances_165 : decode cX8_advances 165 = .ok (.iconst 3, 1) := by decide +kernel
theorem dX8_advances_166 : decode cX8_advances 166 = .ok (.goto 14, 3) := by decide +kernel
theorem dX8_advances_169 : decode cX8_advances 169 = .ok (.iload_n 1, 1) := by decide +kernel
theorem dX8_advances_170 : decode cX8_advances 170 = .ok (.bipush 59, 2) := by decide +kernel
theorem dX8_advances_172 : decode cX8_advances 172 = .ok (.if_icmp .ne 7, 3) := by decide +kernel
theorem dX8_advances_175 : decode cX8_advances 175 = .ok (.iconst 4, 1) := by decide +kernel
theorem dX8_advances_176 : decode cX8_advances 176 = .ok (.goto 4, 3) := by decide +kernel
theorem dX8_advances_179 : decode cX8_advances 179 = .ok (.iconst 5, 1) := by decide +kernel
theorem dX8_advances_180 : decode cX8_advances 180 = .ok (.putfield 101, 3) := by decide +kernel
theorem dX8_advances_183 : decode cX8_advances 183 = .ok (.aload_n 0, 1) := by decide +kernel
theorem dX8_advances_184 : decode cX8_advances 184 = .ok (.dup, 1) := by decide +kernel
theorem dX8_advances_185 : decode cX8_advances 185 = .ok (.getfield 89, 3) := by decide +kernel
theorem dX8_advances_188 : decode cX8_advances 188 = .ok (.aload_n 0, 1) := by decide +kernel
theorem dX8_advances_189 : decode cX8_advances 189 = .ok (.getfield 101, 3) := by decide +kernel
theorem dX8_advances_192 : decode cX8_advances 192 = .ok (.ifCond .ne 7, 3) := by decide +kernel
theorem dX8_advances_195 : decode cX8_advances 195 = .ok (.iconst 0, 1) := by decide +kernel
theorem dX8_advances_196 : decode cX8_advances 196 = .ok (.goto 4, 3) := by decide +kernel
theorem dX8_advances_199 : decode cX8_advances 199 = .ok (.iconst 1, 1) := by decide +kernel
theorem dX8_advances_200 : decode cX8_advances 200 = .ok (.iadd, 1) := by decide +kernel
theorem dX8_advances_201 : decode cX8_advances 201 = .ok (.putfield 89, 3) := by decide +kernel
theorem dX8_advances_204 : decode cX8_advances 204 = .ok (.return_, 1) := by decide +kernel
def rmX8_advances : Room := { frames := 1, cells := 0, slots := 0, locals := 22 }
def jnX8_advances_180 (o0 : Nat) (M5 : zM) (Q : zM → Prop) (x8 : Int32) : Prop :=
    ∀ M9 : zM, M9 = va_up M5 o0 (upd (M5 o0) 6 x8) →
    ((¬ (M9 o0 6) = 0) → (
    ∀ M10 : zM, M10 = va_up M9 o0 (upd (M9 o0) 4 ((M9 o0 4) + (1 : Int32))) →
    Q M10)) ∧
    (((M9 o0 6) = 0) → (
    ∀ M11 : zM, M11 = va_up M9 o0 (upd (M9 o0) 4 ((M9 o0 4) + (0 : Int32))) →
    Q M11))
def jnX8_advances_96 (o0 : Nat) (M14 : zM) (B38 : zM → Prop) (x22 : Int32) : Prop :=
    ∀ M23 : zM, M23 = va_up M14 o0 (upd (M14 o0) 7 x22) →
    ∀ M24 : zM, M24 = va_up M23 o0 (upd (M23 o0) 4 ((M23 o0 4) + (1 : Int32))) →
    B38 M24
def lpX8_advances_38 (o0 : Nat) (K38_112 : zM → Prop) : Nat → zM → Prop
  | 0, _ => False
  | fu38 + 1, M14 =>
    wX8_byteAt M14 o0 (M14 o0 4) (fun r18 =>
    wX8_in M14 r18 (48 : Int32) (57 : Int32) (fun r19 =>
    ((r19 = 0) → (
    K38_112 M14)) ∧
    ((¬ r19 = 0) → (
    (((2 : Int32) ≤ ((M14 o0 4) - (M14 o0 5))) → (
    jnX8_advances_96 o0 M14 (lpX8_advances_38 o0 K38_112 fu38) (M14 o0 7))) ∧
    ((¬ (2 : Int32) ≤ ((M14 o0 4) - (M14 o0 5))) → (
    wX8_byteAt M14 o0 (M14 o0 4) (fun r25 =>
    ∀ x26 : Int32, x26 = ((((10 : Int32) * (M14 o0 7)) + r25) - (48 : Int32)) →
    jnX8_advances_96 o0 M14 (lpX8_advances_38 o0 K38_112 fu38) x26)))))))
def wX8_advances (M : zM) (o0 : Nat) (Q : zM → Prop) : Prop :=
    ∀ M3 : zM, M3 = va_up M o0 (upd (M o0) 5 (M o0 4)) →
    wX8_byteAt M3 o0 (M3 o0 4) (fun r4 =>
    ∀ M5 : zM, M5 = va_up M3 o0 (upd (M3 o0) 7 r4) →
    wX8_in M5 r4 (48 : Int32) (57 : Int32) (fun r6 =>
    ((r6 = 0) → (
    ((0 ≤ r4) → (
    wX8_in M5 r4 (97 : Int32) (122 : Int32) (fun r12 =>
    ((r12 = 0) → (
    ((¬ r4 = (44 : Int32)) → (
    ((¬ r4 = (59 : Int32)) → (
    jnX8_advances_180 o0 M5 Q (5 : Int32))) ∧
    ((r4 = (59 : Int32)) → (
    jnX8_advances_180 o0 M5 Q (4 : Int32))))) ∧
    ((r4 = (44 : Int32)) → (
    jnX8_advances_180 o0 M5 Q (3 : Int32))))) ∧
    ((¬ r12 = 0) → (
    jnX8_advances_180 o0 M5 Q (1 : Int32)))))) ∧
    ((¬ 0 ≤ r4) → (
    jnX8_advances_180 o0 M5 Q (0 : Int32))))) ∧
    ((¬ r6 = 0) → (
    ∀ M13 : zM, M13 = va_up M5 o0 (upd (M5 o0) 7 (0 : Int32)) →
    ∃ fu38 : Nat, lpX8_advances_38 o0 (fun M15 =>
    (((3 : Int32) ≤ ((M15 o0 4) - (M15 o0 5))) → (
    ∀ M16 : zM, M16 = va_up M15 o0 (upd (M15 o0) 6 (5 : Int32)) →
    Q M16)) ∧
    ((¬ (3 : Int32) ≤ ((M15 o0 4) - (M15 o0 5))) → (
    ∀ M17 : zM, M17 = va_up M15 o0 (upd (M15 o0) 6 (2 : Int32)) →
    Q M17))) fu38 M13))))
set_option maxHeartbeats 4000000 in
set_option maxRecDepth 100000 in
theorem kX8_advances {l : Launch} {D : va_G} {Y : zY} {ad kd : Nat → Nat} {RL : List Nat} {M : zM} {J : zL} {o0 : Nat} (h_o0 : kd o0 = 8) {Q : zM → Prop} (hq : wX8_advances M o0 Q) : zCv l yX8_advances wsX8_advances rmX8_advances [.ref (ad o0)] D Y ad kd RL M J (fun M' J' => Q M' ∧ J = J') := by
  refine z_metv (cc := cX8_advances) (maxL := 2) (ret := none) (by decide) rfl (Nat.le_of_ble_eq_true rfl) ?_
  intro p e s m below meth c ls A ar QE hQE hx hb hr hml hown hts hlk hw hl
  have hown : s.vm.findClass RX8 = some m.cls := hown
  have hl : lv_has ls 2 [(0, .ref (ad o0))] := hl
  have hC := hw.2.2.2.2.2.1
  have g8 : ∀ w ∈ wsX80, w.before ar s = true := (fun w h => hts w (List.mem_cons_of_mem _ (List.mem_append_right _ h)))
  have q1 := hts _ (List.mem_of_getElem? (i := 1) rfl)
  have q2 := hts _ (List.mem_of_getElem? (i := 2) rfl)
  have q3 := hts _ (List.mem_of_getElem? (i := 3) rfl)
  have q4 := hts _ (List.mem_of_getElem? (i := 4) rfl)
  unfold wX8_advances at hq
  refine lv_aload_n hx hb dX8_advances_0 rfl (lv_at hl 0 rfl) ?_
  refine lv_aload_n hx hb dX8_advances_1 rfl (lv_at hl 0 rfl) ?_
  refine zg8_at hx hb g8 hown hw h_o0 q1 dX8_advances_2 ?_
  refine zp8_start hx hb g8 hown hw h_o0 q2 dX8_advances_5 (fun H locs hw => ?_)
  obtain ⟨M3, e_M3⟩ : ∃ y : zM, y = va_up M o0 (upd (M o0) 5 (M o0 4)) := ⟨_, rfl⟩
  rw [← e_M3] at hw
  have hq := hq M3 e_M3
  refine lv_aload_n hx hb dX8_advances_8 rfl (lv_at hl 0 rfl) ?_
  refine lv_aload_n hx hb dX8_advances_9 rfl (lv_at hl 0 rfl) ?_
  refine zg8_at hx hb g8 hown hw h_o0 q1 dX8_advances_10 ?_
  refine z_cvi ⟨hx, hb, hml, hown, hts⟩ hw h_o0 (kX8_byteAt h_o0 hq) (by decide) rfl (cwV 1 hts gX8_advances_X8_byteAt rfl rfl rfl (by decide +kernel) ⟨Nat.le_of_ble_eq_true rfl, Nat.le_of_ble_eq_true rfl⟩) rfl hl.1 rfl (Nat.le_of_ble_eq_true rfl) dX8_advances_13 ⟨Nat.zero_le _, Nat.zero_le _⟩ (fun r4 M0 J0 H locs hq hw => ?_)
  obtain ⟨hq, rfl, rfl⟩ := hq
  refine lv_istore_n (lv' := [(1, .int r4), (0, .ref (ad o0))]) hx hb dX8_advances_16 rfl hl (by decide) rfl (fun ls hl => ?_)
  refine lv_aload_n hx hb dX8_advances_17 rfl (lv_at hl 1 rfl) ?_
  refine lv_iload_n hx hb dX8_advances_18 rfl (lv_at hl 0 rfl) ?_
  refine zp8_value hx hb g8 hown hw h_o0 q3 dX8_advances_19 (fun H locs hw => ?_)
  obtain ⟨M5, e_M5⟩ : ∃ y : zM, y = va_up M3 o0 (upd (M3 o0) 7 r4) := ⟨_, rfl⟩
  rw [← e_M5] at hw
  have hq := hq M5 e_M5
  refine lv_iload_n hx hb dX8_advances_22 rfl (lv_at hl 0 rfl) ?_
  refine lv_bipush (v := (48 : Int32)) hx hb dX8_advances_23 (by decide) ?_
  refine lv_bipush (v := (57 : Int32)) hx hb dX8_advances_25 (by decide) ?_
  refine z_csi ⟨hx, hb, hml, hown, hts⟩ hw (kX8_in  hq) (va_cwS 3 hts gX8_advances_X8_in rfl rfl rfl (by decide +kernel) ⟨Nat.le_of_ble_eq_true rfl, Nat.le_of_ble_eq_true rfl⟩) rfl hl.1 rfl (Nat.le_of_ble_eq_true rfl) dX8_advances_27 ⟨Nat.zero_le _, Nat.zero_le _⟩ (fun r6 M0 J0 H locs hq hw => ?_)
  obtain ⟨hq, rfl, rfl⟩ := hq
  refine lv_if_eq (tgt := 135) hx hb dX8_advances_30 (by decide) (fun hc => ?_) (fun hc => ?_)
  · have hq := hq.1 hc
    refine lv_aload_n hx hb dX8_advances_135 rfl (lv_at hl 1 rfl) ?_
    refine lv_iload_n hx hb dX8_advances_136 rfl (lv_at hl 0 rfl) ?_
    have jn180 : ∀ (x8 : Int32) (H : Heap) (locs : List Loc) (ls : Array Slot), jnX8_advances_180 o0 M5 Q x8 → zH D Y ad kd RL M5 J A s.heap H locs s → lv_has ls 2 [(0, .ref (ad o0))] → W p l e rmX8_advances s m ar below meth c H locs 0 0 QE (F0 m 180 ls [.int x8, .ref (ad o0)]) := by
      intro x8 H locs ls hq hw hl
      unfold jnX8_advances_180 at hq
      refine zp8_token hx hb g8 hown hw h_o0 q4 dX8_advances_180 (fun H locs hw => ?_)
      obtain ⟨M9, e_M9⟩ : ∃ y : zM, y = va_up M5 o0 (upd (M5 o0) 6 x8) := ⟨_, rfl⟩
      rw [← e_M9] at hw
      have hq := hq M9 e_M9
      refine lv_aload_n hx hb dX8_advances_183 rfl (lv_at hl 0 rfl) ?_
      refine lv_dup hx hb dX8_advances_184 rfl ?_
      refine zg8_at hx hb g8 hown hw h_o0 q1 dX8_advances_185 ?_
      refine lv_aload_n hx hb dX8_advances_188 rfl (lv_at hl 0 rfl) ?_
      refine zg8_token hx hb g8 hown hw h_o0 q4 dX8_advances_189 ?_
      refine lv_if_ne (tgt := 199) hx hb dX8_advances_192 (by decide) (fun hc => ?_) (fun hc => ?_)
      · have hq := hq.1 hc
        refine lv_iconst (v := (1 : Int32)) hx hb dX8_advances_199 (by decide) ?_
        refine lv_iadd hx hb dX8_advances_200 ?_
        refine zp8_at hx hb g8 hown hw h_o0 q1 dX8_advances_201 (fun H locs hw => ?_)
        obtain ⟨M10, e_M10⟩ : ∃ y : zM, y = va_up M9 o0 (upd (M9 o0) 4 ((M9 o0 4) + (1 : Int32))) := ⟨_, rfl⟩
        rw [← e_M10] at hw
        have hq := hq M10 e_M10
        exact z_vret hQE hx hb hr hlk hw dX8_advances_204 ⟨hq, rfl⟩
      · have hq := hq.2 hc
        refine lv_iconst (v := (0 : Int32)) hx hb dX8_advances_195 (by decide) ?_
        refine lv_goto (tgt := 200) hx hb dX8_advances_196 (by decide) ?_
        refine lv_iadd hx hb dX8_advances_200 ?_
        refine zp8_at hx hb g8 hown hw h_o0 q1 dX8_advances_201 (fun H locs hw => ?_)
        obtain ⟨M11, e_M11⟩ : ∃ y : zM, y = va_up M9 o0 (upd (M9 o0) 4 ((M9 o0 4) + (0 : Int32))) := ⟨_, rfl⟩
        rw [← e_M11] at hw
        have hq := hq M11 e_M11
        exact z_vret hQE hx hb hr hlk hw dX8_advances_204 ⟨hq, rfl⟩
    refine lv_if_ge (tgt := 144) hx hb dX8_advances_137 (by decide) (fun hc => ?_) (fun hc => ?_)
    · have hq := hq.1 hc
      refine lv_iload_n hx hb dX8_advances_144 rfl (lv_at hl 0 rfl) ?_
      refine lv_bipush (v := (97 : Int32)) hx hb dX8_advances_145 (by decide) ?_
      refine lv_bipush (v := (122 : Int32)) hx hb dX8_advances_147 (by decide) ?_
      refine z_csi ⟨hx, hb, hml, hown, hts⟩ hw (kX8_in  hq) (va_cwS 3 hts gX8_advances_X8_in rfl rfl rfl (by decide +kernel) ⟨Nat.le_of_ble_eq_true rfl, Nat.le_of_ble_eq_true rfl⟩) rfl hl.1 rfl (Nat.le_of_ble_eq_true rfl) dX8_advances_149 ⟨Nat.zero_le _, Nat.zero_le _⟩ (fun r12 M0 J0 H locs hq hw => ?_)
      obtain ⟨hq, rfl, rfl⟩ := hq
      refine lv_if_eq (tgt := 159) hx hb dX8_advances_152 (by decide) (fun hc => ?_) (fun hc => ?_)
      · have hq := hq.1 hc
        refine lv_iload_n hx hb dX8_advances_159 rfl (lv_at hl 0 rfl) ?_
        refine lv_bipush (v := (44 : Int32)) hx hb dX8_advances_160 (by decide) ?_
        refine lv_icmp_ne (tgt := 169) hx hb dX8_advances_162 (by decide) (fun hc => ?_) (fun hc => ?_)
        · have hq := hq.1 hc
          refine lv_iload_n hx hb dX8_advances_169 rfl (lv_at hl 0 rfl) ?_
          refine lv_bipush (v := (59 : Int32)) hx hb dX8_advances_170 (by decide) ?_
          refine lv_icmp_ne (tgt := 179) hx hb dX8_advances_172 (by decide) (fun hc => ?_) (fun hc => ?_)
          · have hq := hq.1 hc
            refine lv_iconst (v := (5 : Int32)) hx hb dX8_advances_179 (by decide) ?_
            exact jn180 (5 : Int32) _ _ _ hq hw (lv_sub hl [1] rfl)
          · have hq := hq.2 hc
            refine lv_iconst (v := (4 : Int32)) hx hb dX8_advances_175 (by decide) ?_
            refine lv_goto (tgt := 180) hx hb dX8_advances_176 (by decide) ?_
            exact jn180 (4 : Int32) _ _ _ hq hw (lv_sub hl [1] rfl)
        · have hq := hq.2 hc
          refine lv_iconst (v := (3 : Int32)) hx hb dX8_advances_165 (by decide) ?_
          refine lv_goto (tgt := 180) hx hb dX8_advances_166 (by decide) ?_
          exact jn180 (3 : Int32) _ _ _ hq hw (lv_sub hl [1] rfl)
      · have hq := hq.2 hc
        refine lv_iconst (v := (1 : Int32)) hx hb dX8_advances_155 (by decide) ?_
        refine lv_goto (tgt := 180) hx hb dX8_advances_156 (by decide) ?_
        exact jn180 (1 : Int32) _ _ _ hq hw (lv_sub hl [1] rfl)
    · have hq := hq.2 hc
      refine lv_iconst (v := (0 : Int32)) hx hb dX8_advances_140 (by decide) ?_
      refine lv_goto (tgt := 180) hx hb dX8_advances_141 (by decide) ?_
      exact jn180 (0 : Int32) _ _ _ hq hw (lv_sub hl [1] rfl)
  · have hq := hq.2 hc
    refine lv_aload_n hx hb dX8_advances_33 rfl (lv_at hl 1 rfl) ?_
    refine lv_iconst (v := (0 : Int32)) hx hb dX8_advances_34 (by decide) ?_
    refine zp8_value hx hb g8 hown hw h_o0 q3 dX8_advances_35 (fun H locs hw => ?_)
    obtain ⟨M13, e_M13⟩ : ∃ y : zM, y = va_up M5 o0 (upd (M5 o0) 7 (0 : Int32)) := ⟨_, rfl⟩
    rw [← e_M13] at hw
    have hq := hq M13 e_M13
    have ex38_112 : ∀ (M15 : zM) (H : Heap) (locs : List Loc) (ls : Array Slot), ((((3 : Int32) ≤ ((M15 o0 4) - (M15 o0 5))) → ( ∀ M16 : zM, M16 = va_up M15 o0 (upd (M15 o0) 6 (5 : Int32)) → Q M16)) ∧ ((¬ (3 : Int32) ≤ ((M15 o0 4) - (M15 o0 5))) → ( ∀ M17 : zM, M17 = va_up M15 o0 (upd (M15 o0) 6 (2 : Int32)) → Q M17))) → zH D Y ad kd RL M15 J A s.heap H locs s → lv_has ls 2 [(0, .ref (ad o0))] → W p l e rmX8_advances s m ar below meth c H locs 0 0 QE (F0 m 112 ls []) := by
      intro M15 H locs ls hq hw hl
      refine lv_aload_n hx hb dX8_advances_112 rfl (lv_at hl 0 rfl) ?_
      refine lv_aload_n hx hb dX8_advances_113 rfl (lv_at hl 0 rfl) ?_
      refine zg8_at hx hb g8 hown hw h_o0 q1 dX8_advances_114 ?_
      refine lv_aload_n hx hb dX8_advances_117 rfl (lv_at hl 0 rfl) ?_
      refine zg8_start hx hb g8 hown hw h_o0 q2 dX8_advances_118 ?_
      refine lv_isub hx hb dX8_advances_121 ?_
      refine lv_iconst (v := (3 : Int32)) hx hb dX8_advances_122 (by decide) ?_
      refine lv_icmp_ge (tgt := 130) hx hb dX8_advances_123 (by decide) (fun hc => ?_) (fun hc => ?_)
      · have hq := hq.1 hc
        refine lv_iconst (v := (5 : Int32)) hx hb dX8_advances_130 (by decide) ?_
        refine zp8_token hx hb g8 hown hw h_o0 q4 dX8_advances_131 (fun H locs hw => ?_)
        obtain ⟨M16, e_M16⟩ : ∃ y : zM, y = va_up M15 o0 (upd (M15 o0) 6 (5 : Int32)) := ⟨_, rfl⟩
        rw [← e_M16] at hw
        have hq := hq M16 e_M16
        exact z_vret hQE hx hb hr hlk hw dX8_advances_134 ⟨hq, rfl⟩
      · have hq := hq.2 hc
        refine lv_iconst (v := (2 : Int32)) hx hb dX8_advances_126 (by decide) ?_
        refine lv_goto (tgt := 131) hx hb dX8_advances_127 (by decide) ?_
        refine zp8_token hx hb g8 hown hw h_o0 q4 dX8_advances_131 (fun H locs hw => ?_)
        obtain ⟨M17, e_M17⟩ : ∃ y : zM, y = va_up M15 o0 (upd (M15 o0) 6 (2 : Int32)) := ⟨_, rfl⟩
        rw [← e_M17] at hw
        have hq := hq M17 e_M17
        exact z_vret hQE hx hb hr hlk hw dX8_advances_134 ⟨hq, rfl⟩
    obtain ⟨fu38, hq⟩ := hq
    have lp38 : ∀ (fu38 : Nat) (M14 : zM) (H : Heap) (locs : List Loc) (ls : Array Slot), lpX8_advances_38 o0 (fun M15 => (((3 : Int32) ≤ ((M15 o0 4) - (M15 o0 5))) → ( ∀ M16 : zM, M16 = va_up M15 o0 (upd (M15 o0) 6 (5 : Int32)) → Q M16)) ∧ ((¬ (3 : Int32) ≤ ((M15 o0 4) - (M15 o0 5))) → ( ∀ M17 : zM, M17 = va_up M15 o0 (upd (M15 o0) 6 (2 : Int32)) → Q M17))) fu38 M14 → zH D Y ad kd RL M14 J A s.heap H locs s → lv_has ls 2 [(0, .ref (ad o0))] → W p l e rmX8_advances s m ar below meth c H locs 0 0 QE (F0 m 38 ls []) := by
      intro fu38
      induction fu38 with
      | zero => intro M14 H locs ls hq; exact hq.elim
      | succ fu38 ih38 =>
        intro M14 H locs ls hq hw hl
        unfold lpX8_advances_38 at hq
        refine lv_aload_n hx hb dX8_advances_38 rfl (lv_at hl 0 rfl) ?_
        refine lv_aload_n hx hb dX8_advances_39 rfl (lv_at hl 0 rfl) ?_
        refine zg8_at hx hb g8 hown hw h_o0 q1 dX8_advances_40 ?_
        refine z_cvi ⟨hx, hb, hml, hown, hts⟩ hw h_o0 (kX8_byteAt h_o0 hq) (by decide) rfl (cwV 1 hts gX8_advances_X8_byteAt rfl rfl rfl (by decide +kernel) ⟨Nat.le_of_ble_eq_true rfl, Nat.le_of_ble_eq_true rfl⟩) rfl hl.1 rfl (Nat.le_of_ble_eq_true rfl) dX8_advances_43 ⟨Nat.zero_le _, Nat.zero_le _⟩ (fun r18 M0 J0 H locs hq hw => ?_)
        obtain ⟨hq, rfl, rfl⟩ := hq
        refine lv_bipush (v := (48 : Int32)) hx hb dX8_advances_46 (by decide) ?_
        refine lv_bipush (v := (57 : Int32)) hx hb dX8_advances_48 (by decide) ?_
        refine z_csi ⟨hx, hb, hml, hown, hts⟩ hw (kX8_in  hq) (va_cwS 3 hts gX8_advances_X8_in rfl rfl rfl (by decide +kernel) ⟨Nat.le_of_ble_eq_true rfl, Nat.le_of_ble_eq_true rfl⟩) rfl hl.1 rfl (Nat.le_of_ble_eq_true rfl) dX8_advances_50 ⟨Nat.zero_le _, Nat.zero_le _⟩ (fun r19 M0 J0 H locs hq hw => ?_)
        obtain ⟨hq, rfl, rfl⟩ := hq
        refine lv_if_eq (tgt := 112) hx hb dX8_advances_53 (by decide) (fun hc => ?_) (fun hc => ?_)
        · have hq := hq.1 hc
          exact ex38_112 M14 _ _ _ hq hw (lv_sub hl [0] rfl)
        · have hq := hq.2 hc
          refine lv_aload_n hx hb dX8_advances_56 rfl (lv_at hl 0 rfl) ?_
          refine lv_aload_n hx hb dX8_advances_57 rfl (lv_at hl 0 rfl) ?_
          refine zg8_at hx hb g8 hown hw h_o0 q1 dX8_advances_58 ?_
          refine lv_aload_n hx hb dX8_advances_61 rfl (lv_at hl 0 rfl) ?_
          refine zg8_start hx hb g8 hown hw h_o0 q2 dX8_advances_62 ?_
          refine lv_isub hx hb dX8_advances_65 ?_
          refine lv_iconst (v := (2 : Int32)) hx hb dX8_advances_66 (by decide) ?_
          have jn96 : ∀ (x22 : Int32) (H : Heap) (locs : List Loc) (ls : Array Slot), jnX8_advances_96 o0 M14 (lpX8_advances_38 o0 (fun M15 => (((3 : Int32) ≤ ((M15 o0 4) - (M15 o0 5))) → ( ∀ M16 : zM, M16 = va_up M15 o0 (upd (M15 o0) 6 (5 : Int32)) → Q M16)) ∧ ((¬ (3 : Int32) ≤ ((M15 o0 4) - (M15 o0 5))) → ( ∀ M17 : zM, M17 = va_up M15 o0 (upd (M15 o0) 6 (2 : Int32)) → Q M17))) fu38) x22 → zH D Y ad kd RL M14 J A s.heap H locs s → lv_has ls 2 [(0, .ref (ad o0))] → W p l e rmX8_advances s m ar below meth c H locs 0 0 QE (F0 m 96 ls [.int x22, .ref (ad o0)]) := by
            intro x22 H locs ls hq hw hl
            unfold jnX8_advances_96 at hq
            refine zp8_value hx hb g8 hown hw h_o0 q3 dX8_advances_96 (fun H locs hw => ?_)
            obtain ⟨M23, e_M23⟩ : ∃ y : zM, y = va_up M14 o0 (upd (M14 o0) 7 x22) := ⟨_, rfl⟩
            rw [← e_M23] at hw
            have hq := hq M23 e_M23
            refine lv_aload_n hx hb dX8_advances_99 rfl (lv_at hl 0 rfl) ?_
            refine lv_dup hx hb dX8_advances_100 rfl ?_
            refine zg8_at hx hb g8 hown hw h_o0 q1 dX8_advances_101 ?_
            refine lv_iconst (v := (1 : Int32)) hx hb dX8_advances_104 (by decide) ?_
            refine lv_iadd hx hb dX8_advances_105 ?_
            refine zp8_at hx hb g8 hown hw h_o0 q1 dX8_advances_106 (fun H locs hw => ?_)
            obtain ⟨M24, e_M24⟩ : ∃ y : zM, y = va_up M23 o0 (upd (M23 o0) 4 ((M23 o0 4) + (1 : Int32))) := ⟨_, rfl⟩
            rw [← e_M24] at hw
            have hq := hq M24 e_M24
            refine lv_goto (tgt := 38) hx hb dX8_advances_109 (by decide) ?_
            exact ih38 M24 _ _ _ hq hw (lv_sub hl [0] rfl)
          refine lv_icmp_ge (tgt := 92) hx hb dX8_advances_67 (by decide) (fun hc => ?_) (fun hc => ?_)
          · have hq := hq.1 hc
            refine lv_aload_n hx hb dX8_advances_92 rfl (lv_at hl 0 rfl) ?_
            refine zg8_value hx hb g8 hown hw h_o0 q3 dX8_advances_93 ?_
            exact jn96 (M14 o0 7) _ _ _ hq hw (lv_sub hl [0] rfl)
          · have hq := hq.2 hc
            refine lv_bipush (v := (10 : Int32)) hx hb dX8_advances_70 (by decide) ?_
            refine lv_aload_n hx hb dX8_advances_72 rfl (lv_at hl 0 rfl) ?_
            refine zg8_value hx hb g8 hown hw h_o0 q3 dX8_advances_73 ?_
            refine lv_imul hx hb dX8_advances_76 ?_
            refine lv_aload_n hx hb dX8_advances_77 rfl (lv_at hl 0 rfl) ?_
            refine lv_aload_n hx hb dX8_advances_78 rfl (lv_at hl 0 rfl) ?_
            refine zg8_at hx hb g8 hown hw h_o0 q1 dX8_advances_79 ?_
            refine z_cvi ⟨hx, hb, hml, hown, hts⟩ hw h_o0 (kX8_byteAt h_o0 hq) (by decide) rfl (cwV 1 hts gX8_advances_X8_byteAt rfl rfl rfl (by decide +kernel) ⟨Nat.le_of_ble_eq_true rfl, Nat.le_of_ble_eq_true rfl⟩) rfl hl.1 rfl (Nat.le_of_ble_eq_true rfl) dX8_advances_82 ⟨Nat.zero_le _, Nat.zero_le _⟩ (fun r25 M0 J0 H locs hq hw => ?_)
            obtain ⟨hq, rfl, rfl⟩ := hq
            refine lv_iadd hx hb dX8_advances_85 ?_
            refine lv_bipush (v := (48 : Int32)) hx hb dX8_advances_86 (by decide) ?_
            refine lv_isub hx hb dX8_advances_88 ?_
            refine lv_topi (fun x26 e_x26 => ?_)
            have hq := hq x26 e_x26
            refine lv_goto (tgt := 96) hx hb dX8_advances_89 (by decide) ?_
            exact jn96 x26 _ _ _ hq hw (lv_sub hl [0] rfl)
    exact lp38 fu38 M13 _ _ _ hq hw (lv_sub hl [1] rfl)
theorem dX8_isWell_0 : decode cX8_isWell 0 = .ok (.aload_n 0, 1) := by decide +kernel
theorem dX8_isWell_1 : decode cX8_isWell 1 = .ok (.getfield 104, 3) := by decide +kernel
theorem dX8_isWell_4 : decode cX8_isWell 4 = .ok (.ifCond .ge 7, 3) := by decide +kernel
theorem dX8_isWell_7 : decode cX8_isWell 7 = .ok (.iconst 1, 1) := by decide +kernel
theorem dX8_isWell_8 : decode cX8_isWell 8 = .ok (.goto 4, 3) := by decide +kernel
theorem dX8_isWell_11 : decode cX8_isWell 11 = .ok (.iconst 0, 1) := by decide +kernel
theorem dX8_isWell_12 : decode cX8_isWell 12 = .ok (.ireturn, 1) := by decide +kernel
def rmX8_isWell : Room := { frames := 0, cells := 0, slots := 0, locals := 0 }
def wX8_isWell (M : zM) (o0 : Nat) (Q : Int32 → Prop) : Prop :=
    ((0 ≤ (M o0 3)) → (
    Q (0 : Int32))) ∧
    ((¬ 0 ≤ (M o0 3)) → (
    Q (1 : Int32)))
set_option maxHeartbeats 4000000 in
set_option maxRecDepth 100000 in
theorem kX8_isWell {l : Launch} {D : va_G} {Y : zY} {ad kd : Nat → Nat} {RL : List Nat} {M : zM} {J : zL} {o0 : Nat} (h_o0 : kd o0 = 8) {Q : Int32 → Prop} (hq : wX8_isWell M o0 Q) : zCi l yX8_isWell wsX8_isWell rmX8_isWell [.ref (ad o0)] D Y ad kd RL M J (fun r M' J' => Q r ∧ M = M' ∧ J = J') := by
  refine z_meti (cc := cX8_isWell) (maxL := 1) (ret := (some .boolean)) (by decide) rfl (Nat.le_of_ble_eq_true rfl) ?_
  intro p e s m below meth c ls A ar QE hQE hx hb hr hml hown hts hlk hw hl
  have hown : s.vm.findClass RX8 = some m.cls := hown
  have hl : lv_has ls 1 [(0, .ref (ad o0))] := hl
  have hC := hw.2.2.2.2.2.1
  have g8 : ∀ w ∈ wsX80, w.before ar s = true := (fun w h => hts w (List.mem_cons_of_mem _ (List.mem_append_right _ h)))
  have q1 := hts _ (List.mem_of_getElem? (i := 1) rfl)
  unfold wX8_isWell at hq
  refine lv_aload_n hx hb dX8_isWell_0 rfl (lv_at hl 0 rfl) ?_
  refine zg8_faultPlace hx hb g8 hown hw h_o0 q1 dX8_isWell_1 ?_
  refine lv_if_ge (tgt := 11) hx hb dX8_isWell_4 (by decide) (fun hc => ?_) (fun hc => ?_)
  · have hq := hq.1 hc
    refine lv_iconst (v := (0 : Int32)) hx hb dX8_isWell_11 (by decide) ?_
    exact z_zret hQE hx hb hr hlk hw dX8_isWell_12 (by decide) ⟨hq, rfl, rfl⟩
  · have hq := hq.2 hc
    refine lv_iconst (v := (1 : Int32)) hx hb dX8_isWell_7 (by decide) ?_
    refine lv_goto (tgt := 12) hx hb dX8_isWell_8 (by decide) ?_
    exact z_zret hQE hx hb hr hlk hw dX8_isWell_12 (by decide) ⟨hq, rfl, rfl⟩
set_option maxRecDepth 20000 in
theorem ggX8_takes_X8_isWell : GoodIn wsX8_takes wsX8_isWell := goodIn_r _ [9, 2, 25, 26, 27, 28, 29, 30, 31, 32, 33, 34, 35, 36, 37, 38, 39, 40, 41, 42, 43, 44, 45, 46, 47, 48, 49, 50] (by decide +kernel) (by decide +kernel)
set_option maxRecDepth 20000 in
theorem gX8_takes_X8_isWell : GoodIn wsX8_takes (wsV RX8 107 RX8 yX8_isWell wsX8_isWell) := goodIn_app (goodIn_of _ (by decide +kernel)) ggX8_takes_X8_isWell
set_option maxRecDepth 20000 in
theorem ggX8_takes_X8_advances : GoodIn wsX8_takes wsX8_advances := goodIn_r _ [13, 14, 1, 4, 15, 16, 17, 18, 8, 19, 20, 21, 22, 23, 24, 25, 26, 27, 28, 29, 30, 31, 32, 33, 34, 35, 36, 37, 38, 39, 40, 41, 42, 43, 44, 45, 46, 47, 48, 49, 50] (by decide +kernel) (by decide +kernel)
set_option maxRecDepth 20000 in
theorem gX8_takes_X8_advances : GoodIn wsX8_takes (wsV RX8 114 RX8 yX8_advances wsX8_advances) := goodIn_app (goodIn_of _ (by decide +kernel)) ggX8_takes_X8_advances
theorem dX8_takes_0 : decode cX8_takes 0 = .ok (.aload_n 0, 1) := by decide +kernel
theorem dX8_takes_1 : decode cX8_takes 1 = .ok (.invokevirtual 107, 3) := by decide +kernel
theorem dX8_takes_4 : decode cX8_takes 4 = .ok (.ifCond .ne 5, 3) := by decide +kernel
theorem dX8_takes_7 : decode cX8_takes 7 = .ok (.iconst 0, 1) := by decide +kernel
theorem dX8_takes_8 : decode cX8_takes 8 = .ok (.ireturn, 1) := by decide +kernel
theorem dX8_takes_9 : decode cX8_takes 9 = .ok (.iload_n 1, 1) := by decide +kernel
theorem dX8_takes_10 : decode cX8_takes 10 = .ok (.ifCond .ne 18, 3) := by decide +kernel
theorem dX8_takes_13 : decode cX8_takes 13 = .ok (.aload_n 0, 1) := by decide +kernel
theorem dX8_takes_14 : decode cX8_takes 14 = .ok (.aload_n 0, 1) := by decide +kernel
theorem dX8_takes_15 : decode cX8_takes 15 = .ok (.getfield 92, 3) := by decide +kernel
theorem dX8_takes_18 : decode cX8_takes 18 = .ok (.putfield 104, 3) := by decide +kernel
theorem dX8_takes_21 : decode cX8_takes 21 = .ok (.aload_n 0, 1) := by decide +kernel
theorem dX8_takes_22 : decode cX8_takes 22 = .ok (.iload_n 2, 1) := by decide +kernel
theorem dX8_takes_23 : decode cX8_takes 23 = .ok (.putfield 111, 3) := by decide +kernel
theorem dX8_takes_26 : decode cX8_takes 26 = .ok (.iconst 0, 1) := by decide +kernel
theorem dX8_takes_27 : decode cX8_takes 27 = .ok (.ireturn, 1) := by decide +kernel
theorem dX8_takes_28 : decode cX8_takes 28 = .ok (.aload_n 0, 1) := by decide +kernel
theorem dX8_takes_29 : decode cX8_takes 29 = .ok (.getfield 98, 3) := by decide +kernel
theorem dX8_takes_32 : decode cX8_takes 32 = .ok (.istore_n 3, 1) := by decide +kernel
theorem dX8_takes_33 : decode cX8_takes 33 = .ok (.aload_n 0, 1) := by decide +kernel
theorem dX8_takes_34 : decode cX8_takes 34 = .ok (.invokevirtual 114, 3) := by decide +kernel
theorem dX8_takes_37 : decode cX8_takes 37 = .ok (.iload_n 3, 1) := by decide +kernel
theorem dX8_takes_38 : decode cX8_takes 38 = .ok (.ireturn, 1) := by decide +kernel
def rmX8_takes : Room := { frames := 2, cells := 0, slots := 0, locals := 43 }
def wX8_takes (M : zM) (o0 : Nat) (x1 : Int32) (x2 : Int32) (Q : Int32 → zM → Prop) : Prop :=
    wX8_isWell M o0 (fun r5 =>
    ((¬ r5 = 0) → (
    ((¬ x1 = 0) → (
    wX8_advances M o0 (fun M6 =>
    Q (M o0 7) M6))) ∧
    ((x1 = 0) → (
    ∀ M7 : zM, M7 = va_up M o0 (upd (M o0) 3 (M o0 5)) →
    ∀ M8 : zM, M8 = va_up M7 o0 (upd (M7 o0) 2 x2) →
    Q (0 : Int32) M8)))) ∧
    ((r5 = 0) → (
    Q (0 : Int32) M)))
set_option maxHeartbeats 4000000 in
set_option maxRecDepth 100000 in
theorem kX8_takes {l : Launch} {D : va_G} {Y : zY} {ad kd : Nat → Nat} {RL : List Nat} {M : zM} {J : zL} {o0 : Nat} {x1 : Int32} {x2 : Int32} (h_o0 : kd o0 = 8) {Q : Int32 → zM → Prop} (hq : wX8_takes M o0 x1 x2 Q) : zCi l yX8_takes wsX8_takes rmX8_takes [.ref (ad o0), .int x1, .int x2] D Y ad kd RL M J (fun r M' J' => Q r M' ∧ J = J') := by
  refine z_meti (cc := cX8_takes) (maxL := 4) (ret := (some .int)) (by decide) rfl (Nat.le_of_ble_eq_true rfl) ?_
  intro p e s m below meth c ls A ar QE hQE hx hb hr hml hown hts hlk hw hl
  have hown : s.vm.findClass RX8 = some m.cls := hown
  have hl : lv_has ls 4 [(0, .ref (ad o0)), (1, .int x1), (2, .int x2)] := hl
  have hC := hw.2.2.2.2.2.1
  have g8 : ∀ w ∈ wsX80, w.before ar s = true := (fun w h => hts w (List.mem_cons_of_mem _ (List.mem_append_right _ h)))
  have q1 := hts _ (List.mem_of_getElem? (i := 1) rfl)
  have q2 := hts _ (List.mem_of_getElem? (i := 2) rfl)
  have q3 := hts _ (List.mem_of_getElem? (i := 3) rfl)
  have q4 := hts _ (List.mem_of_getElem? (i := 4) rfl)
  unfold wX8_takes at hq
  refine lv_aload_n hx hb dX8_takes_0 rfl (lv_at hl 0 rfl) ?_
  refine z_cvi ⟨hx, hb, hml, hown, hts⟩ hw h_o0 (kX8_isWell h_o0 hq) (by decide) rfl (cwV 0 hts gX8_takes_X8_isWell rfl rfl rfl (by decide +kernel) ⟨Nat.le_of_ble_eq_true rfl, Nat.le_of_ble_eq_true rfl⟩) rfl hl.1 rfl (Nat.le_of_ble_eq_true rfl) dX8_takes_1 ⟨Nat.zero_le _, Nat.zero_le _⟩ (fun r5 M0 J0 H locs hq hw => ?_)
  obtain ⟨hq, rfl, rfl⟩ := hq
  refine lv_if_ne (tgt := 9) hx hb dX8_takes_4 (by decide) (fun hc => ?_) (fun hc => ?_)
  · have hq := hq.1 hc
    refine lv_iload_n hx hb dX8_takes_9 rfl (lv_at hl 1 rfl) ?_
    refine lv_if_ne (tgt := 28) hx hb dX8_takes_10 (by decide) (fun hc => ?_) (fun hc => ?_)
    · have hq := hq.1 hc
      refine lv_aload_n hx hb dX8_takes_28 rfl (lv_at hl 0 rfl) ?_
      refine zg8_value hx hb g8 hown hw h_o0 q4 dX8_takes_29 ?_
      refine lv_istore_n (lv' := [(3, .int (M o0 7)), (0, .ref (ad o0)), (1, .int x1), (2, .int x2)]) hx hb dX8_takes_32 rfl hl (by decide) rfl (fun ls hl => ?_)
      refine lv_aload_n hx hb dX8_takes_33 rfl (lv_at hl 1 rfl) ?_
      refine z_cvv ⟨hx, hb, hml, hown, hts⟩ hw h_o0 (kX8_advances h_o0 hq) (by decide) rfl (cwV 0 hts gX8_takes_X8_advances rfl rfl rfl (by decide +kernel) ⟨Nat.le_of_ble_eq_true rfl, Nat.le_of_ble_eq_true rfl⟩) rfl hl.1 rfl (Nat.le_of_ble_eq_true rfl) dX8_takes_34 ⟨Nat.zero_le _, Nat.zero_le _⟩ (fun M6 J0 H locs hq hw => ?_)
      obtain ⟨hq, rfl⟩ := hq
      refine lv_iload_n hx hb dX8_takes_37 rfl (lv_at hl 0 rfl) ?_
      exact z_iret hQE hx hb hr hlk hw dX8_takes_38 ⟨hq, rfl⟩
    · have hq := hq.2 hc
      refine lv_aload_n hx hb dX8_takes_13 rfl (lv_at hl 0 rfl) ?_
      refine lv_aload_n hx hb dX8_takes_14 rfl (lv_at hl 0 rfl) ?_
      refine zg8_start hx hb g8 hown hw h_o0 q1 dX8_takes_15 ?_
      refine zp8_faultPlace hx hb g8 hown hw h_o0 q2 dX8_takes_18 (fun H locs hw => ?_)
      obtain ⟨M7, e_M7⟩ : ∃ y : zM, y = va_up M o0 (upd (M o0) 3 (M o0 5)) := ⟨_, rfl⟩
      rw [← e_M7] at hw
      have hq := hq M7 e_M7
      refine lv_aload_n hx hb dX8_takes_21 rfl (lv_at hl 0 rfl) ?_
      refine lv_iload_n hx hb dX8_takes_22 rfl (lv_at hl 2 rfl) ?_
      refine zp8_faultKind hx hb g8 hown hw h_o0 q3 dX8_takes_23 (fun H locs hw => ?_)
      obtain ⟨M8, e_M8⟩ : ∃ y : zM, y = va_up M7 o0 (upd (M7 o0) 2 x2) := ⟨_, rfl⟩
      rw [← e_M8] at hw
      have hq := hq M8 e_M8
      refine lv_iconst (v := (0 : Int32)) hx hb dX8_takes_26 (by decide) ?_
      exact z_iret hQE hx hb hr hlk hw dX8_takes_27 ⟨hq, rfl⟩
  · have hq := hq.2 hc
    refine lv_iconst (v := (0 : Int32)) hx hb dX8_takes_7 (by decide) ?_
    exact z_iret hQE hx hb hr hlk hw dX8_takes_8 ⟨hq, rfl⟩
set_option maxRecDepth 20000 in
theorem ggX8_figure_X8_isWell : GoodIn wsX8_figure wsX8_isWell := goodIn_r _ [7, 8, 29, 30, 31, 32, 33, 34, 35, 36, 37, 38, 39, 40, 41, 42, 43, 44, 45, 46, 47, 48, 49, 50, 51, 52, 53, 54] (by decide +kernel) (by decide +kernel)
set_option maxRecDepth 20000 in
theorem gX8_figure_X8_isWell : GoodIn wsX8_figure (wsV RX8 107 RX8 yX8_isWell wsX8_isWell) := goodIn_app (goodIn_of _ (by decide +kernel)) ggX8_figure_X8_isWell
set_option maxRecDepth 20000 in
theorem ggX8_figure_X8_takes : GoodIn wsX8_figure wsX8_takes := goodIn_r _ [12, 13, 8, 14, 2, 3, 4, 5, 6, 7, 15, 16, 17, 18, 19, 1, 20, 21, 22, 23, 24, 25, 26, 27, 28, 29, 30, 31, 32, 33, 34, 35, 36, 37, 38, 39, 40, 41, 42, 43, 44, 45, 46, 47, 48, 49, 50, 51, 52, 53, 54] (by decide +kernel) (by decide +kernel)
set_option maxRecDepth 20000 in
theorem gX8_figure_X8_takes : GoodIn wsX8_figure (wsV RX8 117 RX8 yX8_takes wsX8_takes) := goodIn_app (goodIn_of _ (by decide +kernel)) ggX8_figure_X8_takes
set_option maxRecDepth 20000 in
theorem ggX8_figure_X8_in : GoodIn wsX8_figure wsX8_in := goodIn_r _ [28] (by decide +kernel) (by decide +kernel)
set_option maxRecDepth 20000 in
theorem gX8_figure_X8_in : GoodIn wsX8_figure (va_wsS RX8 59 yX8_in wsX8_in) := goodIn_app (goodIn_of _ (by decide +kernel)) ggX8_figure_X8_in
theorem dX8_figure_0 : decode cX8_figure 0 = .ok (.aload_n 0, 1) := by decide +kernel
theorem dX8_figure_1 : decode cX8_figure 1 = .ok (.invokevirtual 107, 3) := by decide +kernel
theorem dX8_figure_4 : decode cX8_figure 4 = .ok (.ifCond .eq 18, 3) := by decide +kernel
theorem dX8_figure_7 : decode cX8_figure 7 = .ok (.aload_n 0, 1) := by decide +kernel
theorem dX8_figure_8 : decode cX8_figure 8 = .ok (.getfield 101, 3) := by decide +kernel
theorem dX8_figure_11 : decode cX8_figure 11 = .ok (.iconst 2, 1) := by decide +kernel
theorem dX8_figure_12 : decode cX8_figure 12 = .ok (.if_icmp .eq 10, 3) := by decide +kernel
theorem dX8_figure_15 : decode cX8_figure 15 = .ok (.aload_n 0, 1) := by decide +kernel
theorem dX8_figure_16 : decode cX8_figure 16 = .ok (.iconst 0, 1) := by decide +kernel
theorem dX8_figure_17 : decode cX8_figure 17 = .ok (.iconst 1, 1) := by decide +kernel
theorem dX8_figure_18 : decode cX8_figure 18 = .ok (.invokevirtual 117, 3) := by decide +kernel
theorem dX8_figure_21 : decode cX8_figure 21 = .ok (.ireturn, 1) := by decide +kernel
theorem dX8_figure_22 : decode cX8_figure 22 = .ok (.aload_n 0, 1) := by decide +kernel
theorem dX8_figure_23 : decode cX8_figure 23 = .ok (.aload_n 0, 1) := by decide +kernel
theorem dX8_figure_24 : decode cX8_figure 24 = .ok (.getfield 98, 3) := by decide +kernel
theorem dX8_figure_27 : decode cX8_figure 27 = .ok (.iload_n 1, 1) := by decide +kernel
theorem dX8_figure_28 : decode cX8_figure 28 = .ok (.iload_n 2, 1) := by decide +kernel
theorem dX8_figure_29 : decode cX8_figure 29 = .ok (.invokestatic 59, 3) := by decide +kernel
theorem dX8_figure_32 : decode cX8_figure 32 = .ok (.iconst 2, 1) := by decide +kernel
theorem dX8_figure_33 : decode cX8_figure 33 = .ok (.invokevirtual 117, 3) := by decide +kernel
theorem dX8_figure_36 : decode cX8_figure 36 = .ok (.ireturn, 1) := by decide +kernel
def rmX8_figure : Room := { frames := 3, cells := 0, slots := 0, locals := 66 }
def jnX8_figure_22 (M : zM) (o0 : Nat) (x1 : Int32) (x2 : Int32) (Q : Int32 → zM → Prop)  : Prop :=
    wX8_in M (M o0 7) x1 x2 (fun r8 =>
    wX8_takes M o0 r8 (2 : Int32) (fun r9 M10 =>
    Q r9 M10))
def wX8_figure (M : zM) (o0 : Nat) (x1 : Int32) (x2 : Int32) (Q : Int32 → zM → Prop) : Prop :=
    wX8_isWell M o0 (fun r5 =>
    ((r5 = 0) → (
    jnX8_figure_22 M o0 x1 x2 Q )) ∧
    ((¬ r5 = 0) → (
    (((M o0 6) = (2 : Int32)) → (
    jnX8_figure_22 M o0 x1 x2 Q )) ∧
    ((¬ (M o0 6) = (2 : Int32)) → (
    wX8_takes M o0 (0 : Int32) (1 : Int32) (fun r11 M12 =>
    Q r11 M12))))))
set_option maxHeartbeats 4000000 in
set_option maxRecDepth 100000 in
theorem kX8_figure {l : Launch} {D : va_G} {Y : zY} {ad kd : Nat → Nat} {RL : List Nat} {M : zM} {J : zL} {o0 : Nat} {x1 : Int32} {x2 : Int32} (h_o0 : kd o0 = 8) {Q : Int32 → zM → Prop} (hq : wX8_figure M o0 x1 x2 Q) : zCi l yX8_figure wsX8_figure rmX8_figure [.ref (ad o0), .int x1, .int x2] D Y ad kd RL M J (fun r M' J' => Q r M' ∧ J = J') := by
  refine z_meti (cc := cX8_figure) (maxL := 3) (ret := (some .int)) (by decide) rfl (Nat.le_of_ble_eq_true rfl) ?_
  intro p e s m below meth c ls A ar QE hQE hx hb hr hml hown hts hlk hw hl
  have hown : s.vm.findClass RX8 = some m.cls := hown
  have hl : lv_has ls 3 [(0, .ref (ad o0)), (1, .int x1), (2, .int x2)] := hl
  have hC := hw.2.2.2.2.2.1
  have g8 : ∀ w ∈ wsX80, w.before ar s = true := (fun w h => hts w (List.mem_cons_of_mem _ (List.mem_append_right _ h)))
  have q1 := hts _ (List.mem_of_getElem? (i := 1) rfl)
  have q2 := hts _ (List.mem_of_getElem? (i := 2) rfl)
  unfold wX8_figure at hq
  refine lv_aload_n hx hb dX8_figure_0 rfl (lv_at hl 0 rfl) ?_
  refine z_cvi ⟨hx, hb, hml, hown, hts⟩ hw h_o0 (kX8_isWell h_o0 hq) (by decide) rfl (cwV 0 hts gX8_figure_X8_isWell rfl rfl rfl (by decide +kernel) ⟨Nat.le_of_ble_eq_true rfl, Nat.le_of_ble_eq_true rfl⟩) rfl hl.1 rfl (Nat.le_of_ble_eq_true rfl) dX8_figure_1 ⟨Nat.zero_le _, Nat.zero_le _⟩ (fun r5 M0 J0 H locs hq hw => ?_)
  obtain ⟨hq, rfl, rfl⟩ := hq
  have jn22 : ∀ (H : Heap) (locs : List Loc) (ls : Array Slot), jnX8_figure_22 M o0 x1 x2 Q  → zH D Y ad kd RL M J A s.heap H locs s → lv_has ls 3 [(0, .ref (ad o0)), (1, .int x1), (2, .int x2)] → W p l e rmX8_figure s m ar below meth c H locs 0 0 QE (F0 m 22 ls []) := by
    intro  H locs ls hq hw hl
    unfold jnX8_figure_22 at hq
    refine lv_aload_n hx hb dX8_figure_22 rfl (lv_at hl 0 rfl) ?_
    refine lv_aload_n hx hb dX8_figure_23 rfl (lv_at hl 0 rfl) ?_
    refine zg8_value hx hb g8 hown hw h_o0 q2 dX8_figure_24 ?_
    refine lv_iload_n hx hb dX8_figure_27 rfl (lv_at hl 1 rfl) ?_
    refine lv_iload_n hx hb dX8_figure_28 rfl (lv_at hl 2 rfl) ?_
    refine z_csi ⟨hx, hb, hml, hown, hts⟩ hw (kX8_in  hq) (va_cwS 3 hts gX8_figure_X8_in rfl rfl rfl (by decide +kernel) ⟨Nat.le_of_ble_eq_true rfl, Nat.le_of_ble_eq_true rfl⟩) rfl hl.1 rfl (Nat.le_of_ble_eq_true rfl) dX8_figure_29 ⟨Nat.zero_le _, Nat.zero_le _⟩ (fun r8 M0 J0 H locs hq hw => ?_)
    obtain ⟨hq, rfl, rfl⟩ := hq
    refine lv_iconst (v := (2 : Int32)) hx hb dX8_figure_32 (by decide) ?_
    refine z_cvi ⟨hx, hb, hml, hown, hts⟩ hw h_o0 (kX8_takes h_o0 hq) (by decide) rfl (cwV 2 hts gX8_figure_X8_takes rfl rfl rfl (by decide +kernel) ⟨Nat.le_of_ble_eq_true rfl, Nat.le_of_ble_eq_true rfl⟩) rfl hl.1 rfl (Nat.le_of_ble_eq_true rfl) dX8_figure_33 ⟨Nat.zero_le _, Nat.zero_le _⟩ (fun r9 M10 J0 H locs hq hw => ?_)
    obtain ⟨hq, rfl⟩ := hq
    exact z_iret hQE hx hb hr hlk hw dX8_figure_36 ⟨hq, rfl⟩
  refine lv_if_eq (tgt := 22) hx hb dX8_figure_4 (by decide) (fun hc => ?_) (fun hc => ?_)
  · have hq := hq.1 hc
    exact jn22  _ _ _ hq hw (lv_sub hl [0, 1, 2] rfl)
  · have hq := hq.2 hc
    refine lv_aload_n hx hb dX8_figure_7 rfl (lv_at hl 0 rfl) ?_
    refine zg8_token hx hb g8 hown hw h_o0 q1 dX8_figure_8 ?_
    refine lv_iconst (v := (2 : Int32)) hx hb dX8_figure_11 (by decide) ?_
    refine lv_icmp_eq (tgt := 22) hx hb dX8_figure_12 (by decide) (fun hc => ?_) (fun hc => ?_)
    · have hq := hq.1 hc
      exact jn22  _ _ _ hq hw (lv_sub hl [0, 1, 2] rfl)
    · have hq := hq.2 hc
      refine lv_aload_n hx hb dX8_figure_15 rfl (lv_at hl 0 rfl) ?_
      refine lv_iconst (v := (0 : Int32)) hx hb dX8_figure_16 (by decide) ?_
      refine lv_iconst (v := (1 : Int32)) hx hb dX8_figure_17 (by decide) ?_
      refine z_cvi ⟨hx, hb, hml, hown, hts⟩ hw h_o0 (kX8_takes h_o0 hq) (by decide) rfl (cwV 2 hts gX8_figure_X8_takes rfl rfl rfl (by decide +kernel) ⟨Nat.le_of_ble_eq_true rfl, Nat.le_of_ble_eq_true rfl⟩) rfl hl.1 rfl (Nat.le_of_ble_eq_true rfl) dX8_figure_18 ⟨Nat.zero_le _, Nat.zero_le _⟩ (fun r11 M12 J0 H locs hq hw => ?_)
      obtain ⟨hq, rfl⟩ := hq
      exact z_iret hQE hx hb hr hlk hw dX8_figure_21 ⟨hq, rfl⟩
theorem dX8_kindOf_0 : decode cX8_kindOf 0 = .ok (.iload_n 0, 1) := by decide +kernel
theorem dX8_kindOf_1 : decode cX8_kindOf 1 = .ok (.bipush 112, 2) := by decide +kernel
theorem dX8_kindOf_3 : decode cX8_kindOf 3 = .ok (.if_icmp .ne 7, 3) := by decide +kernel
theorem dX8_kindOf_6 : decode cX8_kindOf 6 = .ok (.iconst 1, 1) := by decide +kernel
theorem dX8_kindOf_7 : decode cX8_kindOf 7 = .ok (.goto 44, 3) := by decide +kernel
theorem dX8_kindOf_10 : decode cX8_kindOf 10 = .ok (.iload_n 0, 1) := by decide +kernel
theorem dX8_kindOf_11 : decode cX8_kindOf 11 = .ok (.bipush 115, 2) := by decide +kernel
theorem dX8_kindOf_13 : decode cX8_kindOf 13 = .ok (.if_icmp .ne 7, 3) := by decide +kernel
theorem dX8_kindOf_16 : decode cX8_kindOf 16 = .ok (.iconst 2, 1) := by decide +kernel
theorem dX8_kindOf_17 : decode cX8_kindOf 17 = .ok (.goto 34, 3) := by decide +kernel
theorem dX8_kindOf_20 : decode cX8_kindOf 20 = .ok (.iload_n 0, 1) := by decide +kernel
theorem dX8_kindOf_21 : decode cX8_kindOf 21 = .ok (.bipush 106, 2) := by decide +kernel
theorem dX8_kindOf_23 : decode cX8_kindOf 23 = .ok (.if_icmp .ne 7, 3) := by decide +kernel
theorem dX8_kindOf_26 : decode cX8_kindOf 26 = .ok (.iconst 3, 1) := by decide +kernel
theorem dX8_kindOf_27 : decode cX8_kindOf 27 = .ok (.goto 24, 3) := by decide +kernel
theorem dX8_kindOf_30 : decode cX8_kindOf 30 = .ok (.iload_n 0, 1) := by decide +kernel
theorem dX8_kindOf_31 : decode cX8_kindOf 31 = .ok (.bipush 98, 2) := by decide +kernel
theorem dX8_kindOf_33 : decode cX8_kindOf 33 = .ok (.if_icmp .ne 7, 3) := by decide +kernel
theorem dX8_kindOf_36 : decode cX8_kindOf 36 = .ok (.iconst 4, 1) := by decide +kernel
theorem dX8_kindOf_37 : decode cX8_kindOf 37 = .ok (.goto 14, 3) := by decide +kernel
theorem dX8_kindOf_40 : decode cX8_kindOf 40 = .ok (.iload_n 0, 1) := by decide +kernel
theorem dX8_kindOf_41 : decode cX8_kindOf 41 = .ok (.bipush 101, 2) := by decide +kernel
theorem dX8_kindOf_43 : decode cX8_kindOf 43 = .ok (.if_icmp .ne 7, 3) := by decide +kernel
theorem dX8_kindOf_46 : decode cX8_kindOf 46 = .ok (.iconst 5, 1) := by decide +kernel
theorem dX8_kindOf_47 : decode cX8_kindOf 47 = .ok (.goto 4, 3) := by decide +kernel
theorem dX8_kindOf_50 : decode cX8_kindOf 50 = .ok (.iconst 0, 1) := by decide +kernel
theorem dX8_kindOf_51 : decode cX8_kindOf 51 = .ok (.ireturn, 1) := by decide +kernel
def rmX8_kindOf : Room := { frames := 0, cells := 0, slots := 0, locals := 0 }
def wX8_kindOf (M : zM) (x0 : Int32) (Q : Int32 → Prop) : Prop :=
    ((¬ x0 = (112 : Int32)) → (
    ((¬ x0 = (115 : Int32)) → (
    ((¬ x0 = (106 : Int32)) → (
    ((¬ x0 = (98 : Int32)) → (
    ((¬ x0 = (101 : Int32)) → (
    Q (0 : Int32))) ∧
    ((x0 = (101 : Int32)) → (
    Q (5 : Int32))))) ∧
    ((x0 = (98 : Int32)) → (
    Q (4 : Int32))))) ∧
    ((x0 = (106 : Int32)) → (
    Q (3 : Int32))))) ∧
    ((x0 = (115 : Int32)) → (
    Q (2 : Int32))))) ∧
    ((x0 = (112 : Int32)) → (
    Q (1 : Int32)))
set_option maxHeartbeats 4000000 in
set_option maxRecDepth 100000 in
theorem kX8_kindOf {l : Launch} {D : va_G} {Y : zY} {ad kd : Nat → Nat} {RL : List Nat} {M : zM} {J : zL} {x0 : Int32}  {Q : Int32 → Prop} (hq : wX8_kindOf M x0 Q) : zCi l yX8_kindOf wsX8_kindOf rmX8_kindOf [.int x0] D Y ad kd RL M J (fun r M' J' => Q r ∧ M = M' ∧ J = J') := by
  refine z_meti (cc := cX8_kindOf) (maxL := 1) (ret := (some .int)) (by decide) rfl (Nat.le_of_ble_eq_true rfl) ?_
  intro p e s m below meth c ls A ar QE hQE hx hb hr hml hown hts hlk hw hl
  have hown : s.vm.findClass RX8 = some m.cls := hown
  have hl : lv_has ls 1 [(0, .int x0)] := hl
  have hC := hw.2.2.2.2.2.1
  unfold wX8_kindOf at hq
  refine lv_iload_n hx hb dX8_kindOf_0 rfl (lv_at hl 0 rfl) ?_
  refine lv_bipush (v := (112 : Int32)) hx hb dX8_kindOf_1 (by decide) ?_
  refine lv_icmp_ne (tgt := 10) hx hb dX8_kindOf_3 (by decide) (fun hc => ?_) (fun hc => ?_)
  · have hq := hq.1 hc
    refine lv_iload_n hx hb dX8_kindOf_10 rfl (lv_at hl 0 rfl) ?_
    refine lv_bipush (v := (115 : Int32)) hx hb dX8_kindOf_11 (by decide) ?_
    refine lv_icmp_ne (tgt := 20) hx hb dX8_kindOf_13 (by decide) (fun hc => ?_) (fun hc => ?_)
    · have hq := hq.1 hc
      refine lv_iload_n hx hb dX8_kindOf_20 rfl (lv_at hl 0 rfl) ?_
      refine lv_bipush (v := (106 : Int32)) hx hb dX8_kindOf_21 (by decide) ?_
      refine lv_icmp_ne (tgt := 30) hx hb dX8_kindOf_23 (by decide) (fun hc => ?_) (fun hc => ?_)
      · have hq := hq.1 hc
        refine lv_iload_n hx hb dX8_kindOf_30 rfl (lv_at hl 0 rfl) ?_
        refine lv_bipush (v := (98 : Int32)) hx hb dX8_kindOf_31 (by decide) ?_
        refine lv_icmp_ne (tgt := 40) hx hb dX8_kindOf_33 (by decide) (fun hc => ?_) (fun hc => ?_)
        · have hq := hq.1 hc
          refine lv_iload_n hx hb dX8_kindOf_40 rfl (lv_at hl 0 rfl) ?_
          refine lv_bipush (v := (101 : Int32)) hx hb dX8_kindOf_41 (by decide) ?_
          refine lv_icmp_ne (tgt := 50) hx hb dX8_kindOf_43 (by decide) (fun hc => ?_) (fun hc => ?_)
          · have hq := hq.1 hc
            refine lv_iconst (v := (0 : Int32)) hx hb dX8_kindOf_50 (by decide) ?_
            exact z_iret hQE hx hb hr hlk hw dX8_kindOf_51 ⟨hq, rfl, rfl⟩
          · have hq := hq.2 hc
            refine lv_iconst (v := (5 : Int32)) hx hb dX8_kindOf_46 (by decide) ?_
            refine lv_goto (tgt := 51) hx hb dX8_kindOf_47 (by decide) ?_
            exact z_iret hQE hx hb hr hlk hw dX8_kindOf_51 ⟨hq, rfl, rfl⟩
        · have hq := hq.2 hc
          refine lv_iconst (v := (4 : Int32)) hx hb dX8_kindOf_36 (by decide) ?_
          refine lv_goto (tgt := 51) hx hb dX8_kindOf_37 (by decide) ?_
          exact z_iret hQE hx hb hr hlk hw dX8_kindOf_51 ⟨hq, rfl, rfl⟩
      · have hq := hq.2 hc
        refine lv_iconst (v := (3 : Int32)) hx hb dX8_kindOf_26 (by decide) ?_
        refine lv_goto (tgt := 51) hx hb dX8_kindOf_27 (by decide) ?_
        exact z_iret hQE hx hb hr hlk hw dX8_kindOf_51 ⟨hq, rfl, rfl⟩
    · have hq := hq.2 hc
      refine lv_iconst (v := (2 : Int32)) hx hb dX8_kindOf_16 (by decide) ?_
      refine lv_goto (tgt := 51) hx hb dX8_kindOf_17 (by decide) ?_
      exact z_iret hQE hx hb hr hlk hw dX8_kindOf_51 ⟨hq, rfl, rfl⟩
  · have hq := hq.2 hc
    refine lv_iconst (v := (1 : Int32)) hx hb dX8_kindOf_6 (by decide) ?_
    refine lv_goto (tgt := 51) hx hb dX8_kindOf_7 (by decide) ?_
    exact z_iret hQE hx hb hr hlk hw dX8_kindOf_51 ⟨hq, rfl, rfl⟩
set_option maxRecDepth 20000 in
theorem ggX8_must_X8_isWell : GoodIn wsX8_must wsX8_isWell := goodIn_r _ [5, 6, 29, 30, 31, 32, 33, 34, 35, 36, 37, 38, 39, 40, 41, 42, 43, 44, 45, 46, 47, 48, 49, 50, 51, 52, 53, 54] (by decide +kernel) (by decide +kernel)
set_option maxRecDepth 20000 in
theorem gX8_must_X8_isWell : GoodIn wsX8_must (wsV RX8 107 RX8 yX8_isWell wsX8_isWell) := goodIn_app (goodIn_of _ (by decide +kernel)) ggX8_must_X8_isWell
set_option maxRecDepth 20000 in
theorem ggX8_must_X8_takes : GoodIn wsX8_must wsX8_takes := goodIn_r _ [10, 11, 6, 12, 13, 1, 2, 3, 4, 5, 14, 15, 16, 17, 18, 19, 20, 21, 22, 23, 24, 25, 26, 27, 28, 29, 30, 31, 32, 33, 34, 35, 36, 37, 38, 39, 40, 41, 42, 43, 44, 45, 46, 47, 48, 49, 50, 51, 52, 53, 54] (by decide +kernel) (by decide +kernel)
set_option maxRecDepth 20000 in
theorem gX8_must_X8_takes : GoodIn wsX8_must (wsV RX8 117 RX8 yX8_takes wsX8_takes) := goodIn_app (goodIn_of _ (by decide +kernel)) ggX8_must_X8_takes
theorem dX8_must_0 : decode cX8_must 0 = .ok (.aload_n 0, 1) := by decide +kernel
theorem dX8_must_1 : decode cX8_must 1 = .ok (.invokevirtual 107, 3) := by decide +kernel
theorem dX8_must_4 : decode cX8_must 4 = .ok (.ifCond .eq 14, 3) := by decide +kernel
theorem dX8_must_7 : decode cX8_must 7 = .ok (.iload_n 1, 1) := by decide +kernel
theorem dX8_must_8 : decode cX8_must 8 = .ok (.ifCond .ne 10, 3) := by decide +kernel
theorem dX8_must_11 : decode cX8_must 11 = .ok (.aload_n 0, 1) := by decide +kernel
theorem dX8_must_12 : decode cX8_must 12 = .ok (.iconst 0, 1) := by decide +kernel
theorem dX8_must_13 : decode cX8_must 13 = .ok (.iload_n 2, 1) := by decide +kernel
theorem dX8_must_14 : decode cX8_must 14 = .ok (.invokevirtual 117, 3) := by decide +kernel
theorem dX8_must_17 : decode cX8_must 17 = .ok (.pop, 1) := by decide +kernel
theorem dX8_must_18 : decode cX8_must 18 = .ok (.return_, 1) := by decide +kernel
def rmX8_must : Room := { frames := 3, cells := 0, slots := 0, locals := 66 }
def wX8_must (M : zM) (o0 : Nat) (x1 : Int32) (x2 : Int32) (Q : zM → Prop) : Prop :=
    wX8_isWell M o0 (fun r5 =>
    ((r5 = 0) → (
    Q M)) ∧
    ((¬ r5 = 0) → (
    ((¬ x1 = 0) → (
    Q M)) ∧
    ((x1 = 0) → (
    wX8_takes M o0 (0 : Int32) x2 (fun r6 M7 =>
    Q M7))))))
set_option maxHeartbeats 4000000 in
set_option maxRecDepth 100000 in
theorem kX8_must {l : Launch} {D : va_G} {Y : zY} {ad kd : Nat → Nat} {RL : List Nat} {M : zM} {J : zL} {o0 : Nat} {x1 : Int32} {x2 : Int32} (h_o0 : kd o0 = 8) {Q : zM → Prop} (hq : wX8_must M o0 x1 x2 Q) : zCv l yX8_must wsX8_must rmX8_must [.ref (ad o0), .int x1, .int x2] D Y ad kd RL M J (fun M' J' => Q M' ∧ J = J') := by
  refine z_metv (cc := cX8_must) (maxL := 3) (ret := none) (by decide) rfl (Nat.le_of_ble_eq_true rfl) ?_
  intro p e s m below meth c ls A ar QE hQE hx hb hr hml hown hts hlk hw hl
  have hown : s.vm.findClass RX8 = some m.cls := hown
  have hl : lv_has ls 3 [(0, .ref (ad o0)), (1, .int x1), (2, .int x2)] := hl
  have hC := hw.2.2.2.2.2.1
  unfold wX8_must at hq
  refine lv_aload_n hx hb dX8_must_0 rfl (lv_at hl 0 rfl) ?_
  refine z_cvi ⟨hx, hb, hml, hown, hts⟩ hw h_o0 (kX8_isWell h_o0 hq) (by decide) rfl (cwV 0 hts gX8_must_X8_isWell rfl rfl rfl (by decide +kernel) ⟨Nat.le_of_ble_eq_true rfl, Nat.le_of_ble_eq_true rfl⟩) rfl hl.1 rfl (Nat.le_of_ble_eq_true rfl) dX8_must_1 ⟨Nat.zero_le _, Nat.zero_le _⟩ (fun r5 M0 J0 H locs hq hw => ?_)
  obtain ⟨hq, rfl, rfl⟩ := hq
  refine lv_if_eq (tgt := 18) hx hb dX8_must_4 (by decide) (fun hc => ?_) (fun hc => ?_)
  · have hq := hq.1 hc
    exact z_vret hQE hx hb hr hlk hw dX8_must_18 ⟨hq, rfl⟩
  · have hq := hq.2 hc
    refine lv_iload_n hx hb dX8_must_7 rfl (lv_at hl 1 rfl) ?_
    refine lv_if_ne (tgt := 18) hx hb dX8_must_8 (by decide) (fun hc => ?_) (fun hc => ?_)
    · have hq := hq.1 hc
      exact z_vret hQE hx hb hr hlk hw dX8_must_18 ⟨hq, rfl⟩
    · have hq := hq.2 hc
      refine lv_aload_n hx hb dX8_must_11 rfl (lv_at hl 0 rfl) ?_
      refine lv_iconst (v := (0 : Int32)) hx hb dX8_must_12 (by decide) ?_
      refine lv_iload_n hx hb dX8_must_13 rfl (lv_at hl 2 rfl) ?_
      refine z_cvi ⟨hx, hb, hml, hown, hts⟩ hw h_o0 (kX8_takes h_o0 hq) (by decide) rfl (cwV 2 hts gX8_must_X8_takes rfl rfl rfl (by decide +kernel) ⟨Nat.le_of_ble_eq_true rfl, Nat.le_of_ble_eq_true rfl⟩) rfl hl.1 rfl (Nat.le_of_ble_eq_true rfl) dX8_must_14 ⟨Nat.zero_le _, Nat.zero_le _⟩ (fun r6 M7 J0 H locs hq hw => ?_)
      obtain ⟨hq, rfl⟩ := hq
      refine lv_pop hx hb dX8_must_17 rfl ?_
      exact z_vret hQE hx hb hr hlk hw dX8_must_18 ⟨hq, rfl⟩
set_option maxRecDepth 20000 in
theorem ggX8_readsPeg_X8_kindOf : GoodIn wsX8_readsPeg wsX8_kindOf := goodIn_r _ [7] (by decide +kernel) (by decide +kernel)
set_option maxRecDepth 20000 in
theorem gX8_readsPeg_X8_kindOf : GoodIn wsX8_readsPeg (va_wsS RX8 121 yX8_kindOf wsX8_kindOf) := goodIn_app (goodIn_of _ (by decide +kernel)) ggX8_readsPeg_X8_kindOf
set_option maxRecDepth 20000 in
theorem ggX8_readsPeg_X8_takes : GoodIn wsX8_readsPeg wsX8_takes := goodIn_r _ [11, 12, 13, 14, 1, 15, 16, 17, 6, 18, 19, 20, 21, 22, 23, 3, 24, 25, 26, 27, 28, 29, 30, 31, 32, 37, 38, 39, 40, 41, 42, 43, 44, 45, 46, 47, 48, 49, 50, 51, 52, 53, 54, 55, 56, 57, 58, 59, 60, 61, 62] (by decide +kernel) (by decide +kernel)
set_option maxRecDepth 20000 in
theorem gX8_readsPeg_X8_takes : GoodIn wsX8_readsPeg (wsV RX8 117 RX8 yX8_takes wsX8_takes) := goodIn_app (goodIn_of _ (by decide +kernel)) ggX8_readsPeg_X8_takes
set_option maxRecDepth 20000 in
theorem ggX8_readsPeg_X8_figure : GoodIn wsX8_readsPeg wsX8_figure := goodIn_r _ [36, 3, 1, 15, 16, 17, 6, 18, 13, 8, 9, 10, 11, 12, 14, 19, 20, 21, 22, 23, 24, 25, 26, 27, 28, 29, 30, 31, 32, 37, 38, 39, 40, 41, 42, 43, 44, 45, 46, 47, 48, 49, 50, 51, 52, 53, 54, 55, 56, 57, 58, 59, 60, 61, 62] (by decide +kernel) (by decide +kernel)
set_option maxRecDepth 20000 in
theorem gX8_readsPeg_X8_figure : GoodIn wsX8_readsPeg (wsV RX8 124 RX8 yX8_figure wsX8_figure) := goodIn_app (goodIn_of _ (by decide +kernel)) ggX8_readsPeg_X8_figure
set_option maxRecDepth 20000 in
theorem ggX8_readsPeg_X8_isWell : GoodIn wsX8_readsPeg wsX8_isWell := goodIn_r _ [18, 13, 37, 38, 39, 40, 41, 42, 43, 44, 45, 46, 47, 48, 49, 50, 51, 52, 53, 54, 55, 56, 57, 58, 59, 60, 61, 62] (by decide +kernel) (by decide +kernel)
set_option maxRecDepth 20000 in
theorem gX8_readsPeg_X8_isWell : GoodIn wsX8_readsPeg (wsV RX8 107 RX8 yX8_isWell wsX8_isWell) := goodIn_app (goodIn_of _ (by decide +kernel)) ggX8_readsPeg_X8_isWell
theorem dX8_readsPeg_0 : decode cX8_readsPeg 0 = .ok (.aload_n 0, 1) := by decide +kernel
theorem dX8_readsPeg_1 : decode cX8_readsPeg 1 = .ok (.getfield 98, 3) := by decide +kernel
theorem dX8_readsPeg_4 : decode cX8_readsPeg 4 = .ok (.invokestatic 121, 3) := by decide +kernel
theorem dX8_readsPeg_7 : decode cX8_readsPeg 7 = .ok (.istore_n 1, 1) := by decide +kernel
theorem dX8_readsPeg_8 : decode cX8_readsPeg 8 = .ok (.aload_n 0, 1) := by decide +kernel
theorem dX8_readsPeg_9 : decode cX8_readsPeg 9 = .ok (.aload_n 0, 1) := by decide +kernel
theorem dX8_readsPeg_10 : decode cX8_readsPeg 10 = .ok (.getfield 28, 3) := by decide +kernel
theorem dX8_readsPeg_13 : decode cX8_readsPeg 13 = .ok (.iconst 0, 1) := by decide +kernel
theorem dX8_readsPeg_14 : decode cX8_readsPeg 14 = .ok (.iaload, 1) := by decide +kernel
theorem dX8_readsPeg_15 : decode cX8_readsPeg 15 = .ok (.bipush 12, 2) := by decide +kernel
theorem dX8_readsPeg_17 : decode cX8_readsPeg 17 = .ok (.if_icmp .ge 7, 3) := by decide +kernel
theorem dX8_readsPeg_20 : decode cX8_readsPeg 20 = .ok (.iconst 1, 1) := by decide +kernel
theorem dX8_readsPeg_21 : decode cX8_readsPeg 21 = .ok (.goto 4, 3) := by decide +kernel
theorem dX8_readsPeg_24 : decode cX8_readsPeg 24 = .ok (.iconst 0, 1) := by decide +kernel
theorem dX8_readsPeg_25 : decode cX8_readsPeg 25 = .ok (.iconst 3, 1) := by decide +kernel
theorem dX8_readsPeg_26 : decode cX8_readsPeg 26 = .ok (.invokevirtual 117, 3) := by decide +kernel
theorem dX8_readsPeg_29 : decode cX8_readsPeg 29 = .ok (.pop, 1) := by decide +kernel
theorem dX8_readsPeg_30 : decode cX8_readsPeg 30 = .ok (.aload_n 0, 1) := by decide +kernel
theorem dX8_readsPeg_31 : decode cX8_readsPeg 31 = .ok (.iconst 0, 1) := by decide +kernel
theorem dX8_readsPeg_32 : decode cX8_readsPeg 32 = .ok (.bipush 60, 2) := by decide +kernel
theorem dX8_readsPeg_34 : decode cX8_readsPeg 34 = .ok (.invokevirtual 124, 3) := by decide +kernel
theorem dX8_readsPeg_37 : decode cX8_readsPeg 37 = .ok (.istore_n 2, 1) := by decide +kernel
theorem dX8_readsPeg_38 : decode cX8_readsPeg 38 = .ok (.aload_n 0, 1) := by decide +kernel
theorem dX8_readsPeg_39 : decode cX8_readsPeg 39 = .ok (.aload_n 0, 1) := by decide +kernel
theorem dX8_readsPeg_40 : decode cX8_readsPeg 40 = .ok (.getfield 101, 3) := by decide +kernel
theorem dX8_readsPeg_43 : decode cX8_readsPeg 43 = .ok (.iconst 3, 1) := by decide +kernel
theorem dX8_readsPeg_44 : decode cX8_readsPeg 44 = .ok (.if_icmp .ne 7, 3) := by decide +kernel
theorem dX8_readsPeg_47 : decode cX8_readsPeg 47 = .ok (.iconst 1, 1) := by decide +kernel
theorem dX8_readsPeg_48 : decode cX8_readsPeg 48 = .ok (.goto 4, 3) := by decide +kernel
theorem dX8_readsPeg_51 : decode cX8_readsPeg 51 = .ok (.iconst 0, 1) := by decide +kernel
theorem dX8_readsPeg_52 : decode cX8_readsPeg 52 = .ok (.iconst 1, 1) := by decide +kernel
theorem dX8_readsPeg_53 : decode cX8_readsPeg 53 = .ok (.invokevirtual 117, 3) := by decide +kernel
theorem dX8_readsPeg_56 : decode cX8_readsPeg 56 = .ok (.pop, 1) := by decide +kernel
theorem dX8_readsPeg_57 : decode cX8_readsPeg 57 = .ok (.aload_n 0, 1) := by decide +kernel
theorem dX8_readsPeg_58 : decode cX8_readsPeg 58 = .ok (.iconst 0, 1) := by decide +kernel
theorem dX8_readsPeg_59 : decode cX8_readsPeg 59 = .ok (.iconst 3, 1) := by decide +kernel
theorem dX8_readsPeg_60 : decode cX8_readsPeg 60 = .ok (.invokevirtual 124, 3) := by decide +kernel
theorem dX8_readsPeg_63 : decode cX8_readsPeg 63 = .ok (.istore_n 3, 1) := by decide +kernel
theorem dX8_readsPeg_64 : decode cX8_readsPeg 64 = .ok (.aload_n 0, 1) := by decide +kernel
theorem dX8_readsPeg_65 : decode cX8_readsPeg 65 = .ok (.aload_n 0, 1) := by decide +kernel
theorem dX8_readsPeg_66 : decode cX8_readsPeg 66 = .ok (.getfield 101, 3) := by decide +kernel
theorem dX8_readsPeg_69 : decode cX8_readsPeg 69 = .ok (.iconst 4, 1) := by decide +kernel
theorem dX8_readsPeg_70 : decode cX8_readsPeg 70 = .ok (.if_icmp .ne 7, 3) := by decide +kernel
theorem dX8_readsPeg_73 : decode cX8_readsPeg 73 = .ok (.iconst 1, 1) := by decide +kernel
theorem dX8_readsPeg_74 : decode cX8_readsPeg 74 = .ok (.goto 4, 3) := by decide +kernel
theorem dX8_readsPeg_77 : decode cX8_readsPeg 77 = .ok (.iconst 0, 1) := by decide +kernel
theorem dX8_readsPeg_78 : decode cX8_readsPeg 78 = .ok (.iconst 1, 1) := by decide +kernel
theorem dX8_readsPeg_79 : decode cX8_readsPeg 79 = .ok (.invokevirtual 117, 3) := by decide +kernel
theorem dX8_readsPeg_82 : decode cX8_readsPeg 82 = .ok (.pop, 1) := by decide +kernel
theorem dX8_readsPeg_83 : decode cX8_readsPeg 83 = .ok (.aload_n 0, 1) := by decide +kernel
theorem dX8_readsPeg_84 : decode cX8_readsPeg 84 = .ok (.invokevirtual 107, 3) := by decide +kernel
theorem dX8_readsPeg_87 : decode cX8_readsPeg 87 = .ok (.ifCond .eq 53, 3) := by decide +kernel
theorem dX8_readsPeg_90 : decode cX8_readsPeg 90 = .ok (.iconst 2, 1) := by decide +kernel
theorem dX8_readsPeg_91 : decode cX8_readsPeg 91 = .ok (.iconst 4, 1) := by decide +kernel
theorem dX8_readsPeg_92 : decode cX8_readsPeg 92 = .ok (.aload_n 0, 1) := by decide +kernel
theorem dX8_readsPeg_93 : decode cX8_readsPeg 93 = .ok (.getfield 28, 3) := by decide +kernel
theorem dX8_readsPeg_96 : decode cX8_readsPeg 96 = .ok (.iconst 0, 1) := by decide +kernel
theorem dX8_readsPeg_97 : decode cX8_readsPeg 97 = .ok (.iaload, 1) := by decide +kernel
theorem dX8_readsPeg_98 : decode cX8_readsPeg 98 = .ok (.imul, 1) := by decide +kernel
theorem dX8_readsPeg_99 : decode cX8_readsPeg 99 = .ok (.iadd, 1) := by decide +kernel
theorem dX8_readsPeg_100 : decode cX8_readsPeg 100 = .ok (.istore 4, 2) := by decide +kernel
theorem dX8_readsPeg_102 : decode cX8_readsPeg 102 = .ok (.aload_n 0, 1) := by decide +kernel
theorem dX8_readsPeg_103 : decode cX8_readsPeg 103 = .ok (.getfield 28, 3) := by decide +kernel
theorem dX8_readsPeg_106 : decode cX8_readsPeg 106 = .ok (.iload 4, 2) := by decide +kernel
theorem dX8_readsPeg_108 : decode cX8_readsPeg 108 = .ok (.iload_n 1, 1) := by decide +kernel
theorem dX8_readsPeg_109 : decode cX8_readsPeg 109 = .ok (.iastore, 1) := by decide +kernel
theorem dX8_readsPeg_110 : decode cX8_readsPeg 110 = .ok (.aload_n 0, 1) := by decide +kernel
theorem dX8_readsPeg_111 : decode cX8_readsPeg 111 = .ok (.getfield 28, 3) := by decide +kernel
theorem dX8_readsPeg_114 : decode cX8_readsPeg 114 = .ok (.iload 4, 2) := by decide +kernel
theorem dX8_readsPeg_116 : decode cX8_readsPeg 116 = .ok (.iconst 1, 1) := by decide +kernel
theorem dX8_readsPeg_117 : decode cX8_readsPeg 117 = .ok (.iadd, 1) := by decide +kernel
theorem dX8_readsPeg_118 : decode cX8_readsPeg 118 = .ok (.iload_n 2, 1) := by decide +kernel
theorem dX8_readsPeg_119 : decode cX8_readsPeg 119 = .ok (.iastore, 1) := by decide +kernel
theorem dX8_readsPeg_120 : decode cX8_readsPeg 120 = .ok (.aload_n 0, 1) := by decide +kernel
theorem dX8_readsPeg_121 : decode cX8_readsPeg 121 = .ok (.getfield 28, 3) := by decide +kernel
theorem dX8_readsPeg_124 : decode cX8_readsPeg 124 = .ok (.iload 4, 2) := by decide +kernel
theorem dX8_readsPeg_126 : decode cX8_readsPeg 126 = .ok (.iconst 2, 1) := by decide +kernel
theorem dX8_readsPeg_127 : decode cX8_readsPeg 127 = .ok (.iadd, 1) := by decide +kernel
theorem dX8_readsPeg_128 : decode cX8_readsPeg 128 = .ok (.iload_n 3, 1) := by decide +kernel
theorem dX8_readsPeg_129 : decode cX8_readsPeg 129 = .ok (.iastore, 1) := by decide +kernel
theorem dX8_readsPeg_130 : decode cX8_readsPeg 130 = .ok (.aload_n 0, 1) := by decide +kernel
theorem dX8_readsPeg_131 : decode cX8_readsPeg 131 = .ok (.getfield 28, 3) := by decide +kernel
theorem dX8_readsPeg_134 : decode cX8_readsPeg 134 = .ok (.iconst 0, 1) := by decide +kernel
theorem dX8_readsPeg_135 : decode cX8_readsPeg 135 = .ok (.dup2, 1) := by decide +kernel
theorem dX8_readsPeg_136 : decode cX8_readsPeg 136 = .ok (.iaload, 1) := by decide +kernel
theorem dX8_readsPeg_137 : decode cX8_readsPeg 137 = .ok (.iconst 1, 1) := by decide +kernel
theorem dX8_readsPeg_138 : decode cX8_readsPeg 138 = .ok (.iadd, 1) := by decide +kernel
theorem dX8_readsPeg_139 : decode cX8_readsPeg 139 = .ok (.iastore, 1) := by decide +kernel
theorem dX8_readsPeg_140 : decode cX8_readsPeg 140 = .ok (.return_, 1) := by decide +kernel
def rmX8_readsPeg : Room := { frames := 4, cells := 0, slots := 0, locals := 88 }
def jnX8_readsPeg_78 (o0 : Nat) (r3 : Int32) (r7 : Int32) (r12 : Int32) (M13 : zM) (Q : zM → Prop) (x14 : Int32) : Prop :=
    wX8_takes M13 o0 x14 (1 : Int32) (fun r15 M16 =>
    wX8_isWell M16 o0 (fun r17 =>
    ((r17 = 0) → (
    Q M16)) ∧
    ((¬ r17 = 0) → (
    ∀ x18 : Int32, x18 = ((4 : Int32) * (M16 (o0 + 7) (0 : Int32).toNatClampNeg)) →
    vp_in ((2 : Int32) + x18) 50 ∧
    ∀ M19 : zM, M19 = va_up M16 (o0 + 7) (upd (M16 (o0 + 7)) ((2 : Int32) + x18).toNatClampNeg r3) →
    vp_in (((2 : Int32) + x18) + (1 : Int32)) 50 ∧
    ∀ M20 : zM, M20 = va_up M19 (o0 + 7) (upd (M19 (o0 + 7)) (((2 : Int32) + x18) + (1 : Int32)).toNatClampNeg r7) →
    vp_in (((2 : Int32) + x18) + (2 : Int32)) 50 ∧
    ∀ M21 : zM, M21 = va_up M20 (o0 + 7) (upd (M20 (o0 + 7)) (((2 : Int32) + x18) + (2 : Int32)).toNatClampNeg r12) →
    ∀ x22 : Int32, x22 = ((M21 (o0 + 7) (0 : Int32).toNatClampNeg) + (1 : Int32)) →
    ∀ M23 : zM, M23 = va_up M21 (o0 + 7) (upd (M21 (o0 + 7)) (0 : Int32).toNatClampNeg x22) →
    Q M23))))
def jnX8_readsPeg_52 (o0 : Nat) (r3 : Int32) (r7 : Int32) (M8 : zM) (Q : zM → Prop) (x9 : Int32) : Prop :=
    wX8_takes M8 o0 x9 (1 : Int32) (fun r10 M11 =>
    wX8_figure M11 o0 (0 : Int32) (3 : Int32) (fun r12 M13 =>
    ((¬ (M13 o0 6) = (4 : Int32)) → (
    jnX8_readsPeg_78 o0 r3 r7 r12 M13 Q (0 : Int32))) ∧
    (((M13 o0 6) = (4 : Int32)) → (
    jnX8_readsPeg_78 o0 r3 r7 r12 M13 Q (1 : Int32)))))
def jnX8_readsPeg_25 (M : zM) (o0 : Nat) (r3 : Int32) (Q : zM → Prop) (x4 : Int32) : Prop :=
    wX8_takes M o0 x4 (3 : Int32) (fun r5 M6 =>
    wX8_figure M6 o0 (0 : Int32) (60 : Int32) (fun r7 M8 =>
    ((¬ (M8 o0 6) = (3 : Int32)) → (
    jnX8_readsPeg_52 o0 r3 r7 M8 Q (0 : Int32))) ∧
    (((M8 o0 6) = (3 : Int32)) → (
    jnX8_readsPeg_52 o0 r3 r7 M8 Q (1 : Int32)))))
def wX8_readsPeg (M : zM) (o0 : Nat) (Q : zM → Prop) : Prop :=
    wX8_kindOf M (M o0 7) (fun r3 =>
    (((12 : Int32) ≤ (M (o0 + 7) (0 : Int32).toNatClampNeg)) → (
    jnX8_readsPeg_25 M o0 r3 Q (0 : Int32))) ∧
    ((¬ (12 : Int32) ≤ (M (o0 + 7) (0 : Int32).toNatClampNeg)) → (
    jnX8_readsPeg_25 M o0 r3 Q (1 : Int32))))
set_option maxHeartbeats 4000000 in
set_option maxRecDepth 100000 in
theorem kX8_readsPeg {l : Launch} {D : va_G} {Y : zY} {ad kd : Nat → Nat} {RL : List Nat} {M : zM} {J : zL} {o0 : Nat} (h_o0 : kd o0 = 8) {Q : zM → Prop} (hq : wX8_readsPeg M o0 Q) : zCv l yX8_readsPeg wsX8_readsPeg rmX8_readsPeg [.ref (ad o0)] D Y ad kd RL M J (fun M' J' => Q M' ∧ J = J') := by
  refine z_metv (cc := cX8_readsPeg) (maxL := 5) (ret := none) (by decide) rfl (Nat.le_of_ble_eq_true rfl) ?_
  intro p e s m below meth c ls A ar QE hQE hx hb hr hml hown hts hlk hw hl
  have hown : s.vm.findClass RX8 = some m.cls := hown
  have hl : lv_has ls 5 [(0, .ref (ad o0))] := hl
  have hC := hw.2.2.2.2.2.1
  have g8 : ∀ w ∈ wsX80, w.before ar s = true := (fun w h => hts w (List.mem_cons_of_mem _ (List.mem_append_right _ h)))
  have q1 := hts _ (List.mem_of_getElem? (i := 1) rfl)
  have q2 := hts _ (List.mem_of_getElem? (i := 2) rfl)
  have q3 := hts _ (List.mem_of_getElem? (i := 3) rfl)
  unfold wX8_readsPeg at hq
  refine lv_aload_n hx hb dX8_readsPeg_0 rfl (lv_at hl 0 rfl) ?_
  refine zg8_value hx hb g8 hown hw h_o0 q1 dX8_readsPeg_1 ?_
  refine z_csi ⟨hx, hb, hml, hown, hts⟩ hw (kX8_kindOf  hq) (va_cwS 1 hts gX8_readsPeg_X8_kindOf rfl rfl rfl (by decide +kernel) ⟨Nat.le_of_ble_eq_true rfl, Nat.le_of_ble_eq_true rfl⟩) rfl hl.1 rfl (Nat.le_of_ble_eq_true rfl) dX8_readsPeg_4 ⟨Nat.zero_le _, Nat.zero_le _⟩ (fun r3 M0 J0 H locs hq hw => ?_)
  obtain ⟨hq, rfl, rfl⟩ := hq
  refine lv_istore_n (lv' := [(1, .int r3), (0, .ref (ad o0))]) hx hb dX8_readsPeg_7 rfl hl (by decide) rfl (fun ls hl => ?_)
  refine lv_aload_n hx hb dX8_readsPeg_8 rfl (lv_at hl 1 rfl) ?_
  refine lv_aload_n hx hb dX8_readsPeg_9 rfl (lv_at hl 1 rfl) ?_
  refine zg8_draft hx hb g8 hown hw h_o0 q2 dX8_readsPeg_10 ?_
  refine lv_iconst (v := (0 : Int32)) hx hb dX8_readsPeg_13 (by decide) ?_
  have hi : vp_in (0 : Int32) 50 := by unfold vp_in; decide
  refine z_iald (n := 50) hx hb hw (zk_8_7 hC h_o0) hi dX8_readsPeg_14 ?_
  refine lv_bipush (v := (12 : Int32)) hx hb dX8_readsPeg_15 (by decide) ?_
  have jn25 : ∀ (x4 : Int32) (H : Heap) (locs : List Loc) (ls : Array Slot), jnX8_readsPeg_25 M o0 r3 Q x4 → zH D Y ad kd RL M J A s.heap H locs s → lv_has ls 5 [(0, .ref (ad o0)), (1, .int r3)] → W p l e rmX8_readsPeg s m ar below meth c H locs 0 0 QE (F0 m 25 ls [.int x4, .ref (ad o0)]) := by
    intro x4 H locs ls hq hw hl
    unfold jnX8_readsPeg_25 at hq
    refine lv_iconst (v := (3 : Int32)) hx hb dX8_readsPeg_25 (by decide) ?_
    refine z_cvi ⟨hx, hb, hml, hown, hts⟩ hw h_o0 (kX8_takes h_o0 hq) (by decide) rfl (cwV 2 hts gX8_readsPeg_X8_takes rfl rfl rfl (by decide +kernel) ⟨Nat.le_of_ble_eq_true rfl, Nat.le_of_ble_eq_true rfl⟩) rfl hl.1 rfl (Nat.le_of_ble_eq_true rfl) dX8_readsPeg_26 ⟨Nat.zero_le _, Nat.zero_le _⟩ (fun r5 M6 J0 H locs hq hw => ?_)
    obtain ⟨hq, rfl⟩ := hq
    refine lv_pop hx hb dX8_readsPeg_29 rfl ?_
    refine lv_aload_n hx hb dX8_readsPeg_30 rfl (lv_at hl 0 rfl) ?_
    refine lv_iconst (v := (0 : Int32)) hx hb dX8_readsPeg_31 (by decide) ?_
    refine lv_bipush (v := (60 : Int32)) hx hb dX8_readsPeg_32 (by decide) ?_
    refine z_cvi ⟨hx, hb, hml, hown, hts⟩ hw h_o0 (kX8_figure h_o0 hq) (by decide) rfl (cwV 2 hts gX8_readsPeg_X8_figure rfl rfl rfl (by decide +kernel) ⟨Nat.le_of_ble_eq_true rfl, Nat.le_of_ble_eq_true rfl⟩) rfl hl.1 rfl (Nat.le_of_ble_eq_true rfl) dX8_readsPeg_34 ⟨Nat.zero_le _, Nat.zero_le _⟩ (fun r7 M8 J0 H locs hq hw => ?_)
    obtain ⟨hq, rfl⟩ := hq
    refine lv_istore_n (lv' := [(2, .int r7), (0, .ref (ad o0)), (1, .int r3)]) hx hb dX8_readsPeg_37 rfl hl (by decide) rfl (fun ls hl => ?_)
    refine lv_aload_n hx hb dX8_readsPeg_38 rfl (lv_at hl 1 rfl) ?_
    refine lv_aload_n hx hb dX8_readsPeg_39 rfl (lv_at hl 1 rfl) ?_
    refine zg8_token hx hb g8 hown hw h_o0 q3 dX8_readsPeg_40 ?_
    refine lv_iconst (v := (3 : Int32)) hx hb dX8_readsPeg_43 (by decide) ?_
    have jn52 : ∀ (x9 : Int32) (H : Heap) (locs : List Loc) (ls : Array Slot), jnX8_readsPeg_52 o0 r3 r7 M8 Q x9 → zH D Y ad kd RL M8 J A s.heap H locs s → lv_has ls 5 [(0, .ref (ad o0)), (1, .int r3), (2, .int r7)] → W p l e rmX8_readsPeg s m ar below meth c H locs 0 0 QE (F0 m 52 ls [.int x9, .ref (ad o0)]) := by
      intro x9 H locs ls hq hw hl
      unfold jnX8_readsPeg_52 at hq
      refine lv_iconst (v := (1 : Int32)) hx hb dX8_readsPeg_52 (by decide) ?_
      refine z_cvi ⟨hx, hb, hml, hown, hts⟩ hw h_o0 (kX8_takes h_o0 hq) (by decide) rfl (cwV 2 hts gX8_readsPeg_X8_takes rfl rfl rfl (by decide +kernel) ⟨Nat.le_of_ble_eq_true rfl, Nat.le_of_ble_eq_true rfl⟩) rfl hl.1 rfl (Nat.le_of_ble_eq_true rfl) dX8_readsPeg_53 ⟨Nat.zero_le _, Nat.zero_le _⟩ (fun r10 M11 J0 H locs hq hw => ?_)
      obtain ⟨hq, rfl⟩ := hq
      refine lv_pop hx hb dX8_readsPeg_56 rfl ?_
      refine lv_aload_n hx hb dX8_readsPeg_57 rfl (lv_at hl 0 rfl) ?_
      refine lv_iconst (v := (0 : Int32)) hx hb dX8_readsPeg_58 (by decide) ?_
      refine lv_iconst (v := (3 : Int32)) hx hb dX8_readsPeg_59 (by decide) ?_
      refine z_cvi ⟨hx, hb, hml, hown, hts⟩ hw h_o0 (kX8_figure h_o0 hq) (by decide) rfl (cwV 2 hts gX8_readsPeg_X8_figure rfl rfl rfl (by decide +kernel) ⟨Nat.le_of_ble_eq_true rfl, Nat.le_of_ble_eq_true rfl⟩) rfl hl.1 rfl (Nat.le_of_ble_eq_true rfl) dX8_readsPeg_60 ⟨Nat.zero_le _, Nat.zero_le _⟩ (fun r12 M13 J0 H locs hq hw => ?_)
      obtain ⟨hq, rfl⟩ := hq
      refine lv_istore_n (lv' := [(3, .int r12), (0, .ref (ad o0)), (1, .int r3), (2, .int r7)]) hx hb dX8_readsPeg_63 rfl hl (by decide) rfl (fun ls hl => ?_)
      refine lv_aload_n hx hb dX8_readsPeg_64 rfl (lv_at hl 1 rfl) ?_
      refine lv_aload_n hx hb dX8_readsPeg_65 rfl (lv_at hl 1 rfl) ?_
      refine zg8_token hx hb g8 hown hw h_o0 q3 dX8_readsPeg_66 ?_
      refine lv_iconst (v := (4 : Int32)) hx hb dX8_readsPeg_69 (by decide) ?_
      have jn78 : ∀ (x14 : Int32) (H : Heap) (locs : List Loc) (ls : Array Slot), jnX8_readsPeg_78 o0 r3 r7 r12 M13 Q x14 → zH D Y ad kd RL M13 J A s.heap H locs s → lv_has ls 5 [(0, .ref (ad o0)), (1, .int r3), (2, .int r7), (3, .int r12)] → W p l e rmX8_readsPeg s m ar below meth c H locs 0 0 QE (F0 m 78 ls [.int x14, .ref (ad o0)]) := by
        intro x14 H locs ls hq hw hl
        unfold jnX8_readsPeg_78 at hq
        refine lv_iconst (v := (1 : Int32)) hx hb dX8_readsPeg_78 (by decide) ?_
        refine z_cvi ⟨hx, hb, hml, hown, hts⟩ hw h_o0 (kX8_takes h_o0 hq) (by decide) rfl (cwV 2 hts gX8_readsPeg_X8_takes rfl rfl rfl (by decide +kernel) ⟨Nat.le_of_ble_eq_true rfl, Nat.le_of_ble_eq_true rfl⟩) rfl hl.1 rfl (Nat.le_of_ble_eq_true rfl) dX8_readsPeg_79 ⟨Nat.zero_le _, Nat.zero_le _⟩ (fun r15 M16 J0 H locs hq hw => ?_)
        obtain ⟨hq, rfl⟩ := hq
        refine lv_pop hx hb dX8_readsPeg_82 rfl ?_
        refine lv_aload_n hx hb dX8_readsPeg_83 rfl (lv_at hl 0 rfl) ?_
        refine z_cvi ⟨hx, hb, hml, hown, hts⟩ hw h_o0 (kX8_isWell h_o0 hq) (by decide) rfl (cwV 0 hts gX8_readsPeg_X8_isWell rfl rfl rfl (by decide +kernel) ⟨Nat.le_of_ble_eq_true rfl, Nat.le_of_ble_eq_true rfl⟩) rfl hl.1 rfl (Nat.le_of_ble_eq_true rfl) dX8_readsPeg_84 ⟨Nat.zero_le _, Nat.zero_le _⟩ (fun r17 M0 J0 H locs hq hw => ?_)
        obtain ⟨hq, rfl, rfl⟩ := hq
        refine lv_if_eq (tgt := 140) hx hb dX8_readsPeg_87 (by decide) (fun hc => ?_) (fun hc => ?_)
        · have hq := hq.1 hc
          exact z_vret hQE hx hb hr hlk hw dX8_readsPeg_140 ⟨hq, rfl⟩
        · have hq := hq.2 hc
          refine lv_iconst (v := (2 : Int32)) hx hb dX8_readsPeg_90 (by decide) ?_
          refine lv_iconst (v := (4 : Int32)) hx hb dX8_readsPeg_91 (by decide) ?_
          refine lv_aload_n hx hb dX8_readsPeg_92 rfl (lv_at hl 0 rfl) ?_
          refine zg8_draft hx hb g8 hown hw h_o0 q2 dX8_readsPeg_93 ?_
          refine lv_iconst (v := (0 : Int32)) hx hb dX8_readsPeg_96 (by decide) ?_
          have hi : vp_in (0 : Int32) 50 := by unfold vp_in; decide
          refine z_iald (n := 50) hx hb hw (zk_8_7 hC h_o0) hi dX8_readsPeg_97 ?_
          refine lv_imul hx hb dX8_readsPeg_98 ?_
          refine lv_topi (fun x18 e_x18 => ?_)
          have hq := hq x18 e_x18
          refine lv_iadd hx hb dX8_readsPeg_99 ?_
          refine lv_istore (lv' := [(4, .int ((2 : Int32) + x18)), (0, .ref (ad o0)), (1, .int r3), (2, .int r7), (3, .int r12)]) hx hb dX8_readsPeg_100 hl (by decide) rfl (fun ls hl => ?_)
          refine lv_aload_n hx hb dX8_readsPeg_102 rfl (lv_at hl 1 rfl) ?_
          refine zg8_draft hx hb g8 hown hw h_o0 q2 dX8_readsPeg_103 ?_
          refine lv_iload hx hb dX8_readsPeg_106 (lv_at hl 0 rfl) ?_
          refine lv_iload_n hx hb dX8_readsPeg_108 rfl (lv_at hl 2 rfl) ?_
          obtain ⟨hi, hq⟩ := hq
          refine z_iast (n := 50) hx hb hw (zk_8_7 hC h_o0) hi dX8_readsPeg_109 (fun H locs hw => ?_)
          obtain ⟨M19, e_M19⟩ : ∃ y : zM, y = va_up M16 (o0 + 7) (upd (M16 (o0 + 7)) ((2 : Int32) + x18).toNatClampNeg r3) := ⟨_, rfl⟩
          rw [← e_M19] at hw
          have hq := hq M19 e_M19
          refine lv_aload_n hx hb dX8_readsPeg_110 rfl (lv_at hl 1 rfl) ?_
          refine zg8_draft hx hb g8 hown hw h_o0 q2 dX8_readsPeg_111 ?_
          refine lv_iload hx hb dX8_readsPeg_114 (lv_at hl 0 rfl) ?_
          refine lv_iconst (v := (1 : Int32)) hx hb dX8_readsPeg_116 (by decide) ?_
          refine lv_iadd hx hb dX8_readsPeg_117 ?_
          refine lv_iload_n hx hb dX8_readsPeg_118 rfl (lv_at hl 3 rfl) ?_
          obtain ⟨hi, hq⟩ := hq
          refine z_iast (n := 50) hx hb hw (zk_8_7 hC h_o0) hi dX8_readsPeg_119 (fun H locs hw => ?_)
          obtain ⟨M20, e_M20⟩ : ∃ y : zM, y = va_up M19 (o0 + 7) (upd (M19 (o0 + 7)) (((2 : Int32) + x18) + (1 : Int32)).toNatClampNeg r7) := ⟨_, rfl⟩
          rw [← e_M20] at hw
          have hq := hq M20 e_M20
          refine lv_aload_n hx hb dX8_readsPeg_120 rfl (lv_at hl 1 rfl) ?_
          refine zg8_draft hx hb g8 hown hw h_o0 q2 dX8_readsPeg_121 ?_
          refine lv_iload hx hb dX8_readsPeg_124 (lv_at hl 0 rfl) ?_
          refine lv_iconst (v := (2 : Int32)) hx hb dX8_readsPeg_126 (by decide) ?_
          refine lv_iadd hx hb dX8_readsPeg_127 ?_
          refine lv_iload_n hx hb dX8_readsPeg_128 rfl (lv_at hl 4 rfl) ?_
          obtain ⟨hi, hq⟩ := hq
          refine z_iast (n := 50) hx hb hw (zk_8_7 hC h_o0) hi dX8_readsPeg_129 (fun H locs hw => ?_)
          obtain ⟨M21, e_M21⟩ : ∃ y : zM, y = va_up M20 (o0 + 7) (upd (M20 (o0 + 7)) (((2 : Int32) + x18) + (2 : Int32)).toNatClampNeg r12) := ⟨_, rfl⟩
          rw [← e_M21] at hw
          have hq := hq M21 e_M21
          refine lv_aload_n hx hb dX8_readsPeg_130 rfl (lv_at hl 1 rfl) ?_
          refine zg8_draft hx hb g8 hown hw h_o0 q2 dX8_readsPeg_131 ?_
          refine lv_iconst (v := (0 : Int32)) hx hb dX8_readsPeg_134 (by decide) ?_
          refine lv_dup2_11 hx hb dX8_readsPeg_135 rfl rfl ?_
          have hi : vp_in (0 : Int32) 50 := by unfold vp_in; decide
          refine z_iald (n := 50) hx hb hw (zk_8_7 hC h_o0) hi dX8_readsPeg_136 ?_
          refine lv_iconst (v := (1 : Int32)) hx hb dX8_readsPeg_137 (by decide) ?_
          refine lv_iadd hx hb dX8_readsPeg_138 ?_
          refine lv_topi (fun x22 e_x22 => ?_)
          have hq := hq x22 e_x22
          have hi : vp_in (0 : Int32) 50 := by unfold vp_in; decide
          refine z_iast (n := 50) hx hb hw (zk_8_7 hC h_o0) hi dX8_readsPeg_139 (fun H locs hw => ?_)
          obtain ⟨M23, e_M23⟩ : ∃ y : zM, y = va_up M21 (o0 + 7) (upd (M21 (o0 + 7)) (0 : Int32).toNatClampNeg x22) := ⟨_, rfl⟩
          rw [← e_M23] at hw
          have hq := hq M23 e_M23
          exact z_vret hQE hx hb hr hlk hw dX8_readsPeg_140 ⟨hq, rfl⟩
      refine lv_icmp_ne (tgt := 77) hx hb dX8_readsPeg_70 (by decide) (fun hc => ?_) (fun hc => ?_)
      · have hq := hq.1 hc
        refine lv_iconst (v := (0 : Int32)) hx hb dX8_readsPeg_77 (by decide) ?_
        exact jn78 (0 : Int32) _ _ _ hq hw (lv_sub hl [1, 2, 3, 0] rfl)
      · have hq := hq.2 hc
        refine lv_iconst (v := (1 : Int32)) hx hb dX8_readsPeg_73 (by decide) ?_
        refine lv_goto (tgt := 78) hx hb dX8_readsPeg_74 (by decide) ?_
        exact jn78 (1 : Int32) _ _ _ hq hw (lv_sub hl [1, 2, 3, 0] rfl)
    refine lv_icmp_ne (tgt := 51) hx hb dX8_readsPeg_44 (by decide) (fun hc => ?_) (fun hc => ?_)
    · have hq := hq.1 hc
      refine lv_iconst (v := (0 : Int32)) hx hb dX8_readsPeg_51 (by decide) ?_
      exact jn52 (0 : Int32) _ _ _ hq hw (lv_sub hl [1, 2, 0] rfl)
    · have hq := hq.2 hc
      refine lv_iconst (v := (1 : Int32)) hx hb dX8_readsPeg_47 (by decide) ?_
      refine lv_goto (tgt := 52) hx hb dX8_readsPeg_48 (by decide) ?_
      exact jn52 (1 : Int32) _ _ _ hq hw (lv_sub hl [1, 2, 0] rfl)
  refine lv_icmp_ge (tgt := 24) hx hb dX8_readsPeg_17 (by decide) (fun hc => ?_) (fun hc => ?_)
  · have hq := hq.1 hc
    refine lv_iconst (v := (0 : Int32)) hx hb dX8_readsPeg_24 (by decide) ?_
    exact jn25 (0 : Int32) _ _ _ hq hw (lv_sub hl [1, 0] rfl)
  · have hq := hq.2 hc
    refine lv_iconst (v := (1 : Int32)) hx hb dX8_readsPeg_20 (by decide) ?_
    refine lv_goto (tgt := 25) hx hb dX8_readsPeg_21 (by decide) ?_
    exact jn25 (1 : Int32) _ _ _ hq hw (lv_sub hl [1, 0] rfl)
set_option maxRecDepth 20000 in
theorem ggX8_rail_X8_advances : GoodIn wsX8_rail wsX8_advances := goodIn_r _ [14, 2, 15, 5, 4, 16, 17, 18, 13, 19, 6, 20, 21, 22, 23, 51, 52, 53, 54, 55, 56, 57, 58, 59, 60, 61, 62, 63, 64, 65, 66, 67, 68, 69, 70, 71, 72, 73, 74, 75, 76] (by decide +kernel) (by decide +kernel)
set_option maxRecDepth 20000 in
theorem gX8_rail_X8_advances : GoodIn wsX8_rail (wsV RX8 114 RX8 yX8_advances wsX8_advances) := goodIn_app (goodIn_of _ (by decide +kernel)) ggX8_rail_X8_advances
set_option maxRecDepth 20000 in
theorem ggX8_rail_X8_isWell : GoodIn wsX8_rail wsX8_isWell := goodIn_r _ [27, 3, 51, 52, 53, 54, 55, 56, 57, 58, 59, 60, 61, 62, 63, 64, 65, 66, 67, 68, 69, 70, 71, 72, 73, 74, 75, 76] (by decide +kernel) (by decide +kernel)
set_option maxRecDepth 20000 in
theorem gX8_rail_X8_isWell : GoodIn wsX8_rail (wsV RX8 107 RX8 yX8_isWell wsX8_isWell) := goodIn_app (goodIn_of _ (by decide +kernel)) ggX8_rail_X8_isWell
set_option maxRecDepth 20000 in
theorem ggX8_rail_X8_kindOf : GoodIn wsX8_rail wsX8_kindOf := goodIn_r _ [30] (by decide +kernel) (by decide +kernel)
set_option maxRecDepth 20000 in
theorem gX8_rail_X8_kindOf : GoodIn wsX8_rail (va_wsS RX8 121 yX8_kindOf wsX8_kindOf) := goodIn_app (goodIn_of _ (by decide +kernel)) ggX8_rail_X8_kindOf
set_option maxRecDepth 20000 in
theorem ggX8_rail_X8_readsPeg : GoodIn wsX8_rail wsX8_readsPeg := goodIn_r _ [34, 5, 1, 4, 28, 29, 13, 30, 35, 36, 37, 38, 15, 3, 39, 24, 25, 26, 27, 10, 11, 12, 14, 2, 16, 17, 18, 19, 6, 20, 21, 22, 23, 40, 41, 42, 43, 51, 52, 53, 54, 55, 56, 57, 58, 59, 60, 61, 62, 63, 64, 65, 66, 67, 68, 69, 70, 71, 72, 73, 74, 75, 76] (by decide +kernel) (by decide +kernel)
set_option maxRecDepth 20000 in
theorem gX8_rail_X8_readsPeg : GoodIn wsX8_rail (wsV RX8 127 RX8 yX8_readsPeg wsX8_readsPeg) := goodIn_app (goodIn_of _ (by decide +kernel)) ggX8_rail_X8_readsPeg
set_option maxRecDepth 20000 in
theorem ggX8_rail_X8_must : GoodIn wsX8_rail wsX8_must := goodIn_r _ [47, 24, 25, 26, 13, 27, 3, 35, 36, 37, 38, 15, 39, 5, 10, 11, 12, 14, 2, 4, 16, 17, 18, 19, 6, 20, 21, 22, 23, 51, 52, 53, 54, 55, 56, 57, 58, 59, 60, 61, 62, 63, 64, 65, 66, 67, 68, 69, 70, 71, 72, 73, 74, 75, 76] (by decide +kernel) (by decide +kernel)
set_option maxRecDepth 20000 in
theorem gX8_rail_X8_must : GoodIn wsX8_rail (wsV RX8 130 RX8 yX8_must wsX8_must) := goodIn_app (goodIn_of _ (by decide +kernel)) ggX8_rail_X8_must
set_option maxRecDepth 20000 in
theorem ggX8_rail_X8_copies : GoodIn wsX8_rail wsX8_copies := goodIn_r _ [50] (by decide +kernel) (by decide +kernel)
set_option maxRecDepth 20000 in
theorem gX8_rail_X8_copies : GoodIn wsX8_rail (va_wsS RX8 135 yX8_copies wsX8_copies) := goodIn_app (goodIn_of _ (by decide +kernel)) ggX8_rail_X8_copies
theorem dX8_rail_0 : decode cX8_rail 0 = .ok (.iconst 0, 1) := by decide +kernel
theorem dX8_rail_1 : decode cX8_rail 1 = .ok (.istore_n 1, 1) := by decide +kernel
theorem dX8_rail_2 : decode cX8_rail 2 = .ok (.iload_n 1, 1) := by decide +kernel
theorem dX8_rail_3 : decode cX8_rail 3 = .ok (.bipush 50, 2) := by decide +kernel
theorem dX8_rail_5 : decode cX8_rail 5 = .ok (.if_icmp .ge 16, 3) := by decide +kernel
theorem dX8_rail_8 : decode cX8_rail 8 = .ok (.aload_n 0, 1) := by decide +kernel
theorem dX8_rail_9 : decode cX8_rail 9 = .ok (.getfield 28, 3) := by decide +kernel
theorem dX8_rail_12 : decode cX8_rail 12 = .ok (.iload_n 1, 1) := by decide +kernel
theorem dX8_rail_13 : decode cX8_rail 13 = .ok (.iconst 0, 1) := by decide +kernel
theorem dX8_rail_14 : decode cX8_rail 14 = .ok (.iastore, 1) := by decide +kernel
theorem dX8_rail_15 : decode cX8_rail 15 = .ok (.iinc 1 1, 3) := by decide +kernel
theorem dX8_rail_18 : decode cX8_rail 18 = .ok (.goto (-16), 3) := by decide +kernel
theorem dX8_rail_21 : decode cX8_rail 21 = .ok (.aload_n 0, 1) := by decide +kernel
theorem dX8_rail_22 : decode cX8_rail 22 = .ok (.iconst 0, 1) := by decide +kernel
theorem dX8_rail_23 : decode cX8_rail 23 = .ok (.putfield 89, 3) := by decide +kernel
theorem dX8_rail_26 : decode cX8_rail 26 = .ok (.aload_n 0, 1) := by decide +kernel
theorem dX8_rail_27 : decode cX8_rail 27 = .ok (.iconst (-1), 1) := by decide +kernel
theorem dX8_rail_28 : decode cX8_rail 28 = .ok (.putfield 104, 3) := by decide +kernel
theorem dX8_rail_31 : decode cX8_rail 31 = .ok (.aload_n 0, 1) := by decide +kernel
theorem dX8_rail_32 : decode cX8_rail 32 = .ok (.invokevirtual 114, 3) := by decide +kernel
theorem dX8_rail_35 : decode cX8_rail 35 = .ok (.aload_n 0, 1) := by decide +kernel
theorem dX8_rail_36 : decode cX8_rail 36 = .ok (.invokevirtual 107, 3) := by decide +kernel
theorem dX8_rail_39 : decode cX8_rail 39 = .ok (.ifCond .eq 28, 3) := by decide +kernel
theorem dX8_rail_42 : decode cX8_rail 42 = .ok (.aload_n 0, 1) := by decide +kernel
theorem dX8_rail_43 : decode cX8_rail 43 = .ok (.getfield 101, 3) := by decide +kernel
theorem dX8_rail_46 : decode cX8_rail 46 = .ok (.iconst 1, 1) := by decide +kernel
theorem dX8_rail_47 : decode cX8_rail 47 = .ok (.if_icmp .ne 20, 3) := by decide +kernel
theorem dX8_rail_50 : decode cX8_rail 50 = .ok (.aload_n 0, 1) := by decide +kernel
theorem dX8_rail_51 : decode cX8_rail 51 = .ok (.getfield 98, 3) := by decide +kernel
theorem dX8_rail_54 : decode cX8_rail 54 = .ok (.invokestatic 121, 3) := by decide +kernel
theorem dX8_rail_57 : decode cX8_rail 57 = .ok (.ifCond .le 10, 3) := by decide +kernel
theorem dX8_rail_60 : decode cX8_rail 60 = .ok (.aload_n 0, 1) := by decide +kernel
theorem dX8_rail_61 : decode cX8_rail 61 = .ok (.invokevirtual 127, 3) := by decide +kernel
theorem dX8_rail_64 : decode cX8_rail 64 = .ok (.goto (-29), 3) := by decide +kernel
theorem dX8_rail_67 : decode cX8_rail 67 = .ok (.aload_n 0, 1) := by decide +kernel
theorem dX8_rail_68 : decode cX8_rail 68 = .ok (.aload_n 0, 1) := by decide +kernel
theorem dX8_rail_69 : decode cX8_rail 69 = .ok (.getfield 28, 3) := by decide +kernel
theorem dX8_rail_72 : decode cX8_rail 72 = .ok (.iconst 0, 1) := by decide +kernel
theorem dX8_rail_73 : decode cX8_rail 73 = .ok (.iaload, 1) := by decide +kernel
theorem dX8_rail_74 : decode cX8_rail 74 = .ok (.ifCond .le 14, 3) := by decide +kernel
theorem dX8_rail_77 : decode cX8_rail 77 = .ok (.aload_n 0, 1) := by decide +kernel
theorem dX8_rail_78 : decode cX8_rail 78 = .ok (.getfield 101, 3) := by decide +kernel
theorem dX8_rail_81 : decode cX8_rail 81 = .ok (.ifCond .ne 7, 3) := by decide +kernel
theorem dX8_rail_84 : decode cX8_rail 84 = .ok (.iconst 1, 1) := by decide +kernel
theorem dX8_rail_85 : decode cX8_rail 85 = .ok (.goto 4, 3) := by decide +kernel
theorem dX8_rail_88 : decode cX8_rail 88 = .ok (.iconst 0, 1) := by decide +kernel
theorem dX8_rail_89 : decode cX8_rail 89 = .ok (.iconst 1, 1) := by decide +kernel
theorem dX8_rail_90 : decode cX8_rail 90 = .ok (.invokevirtual 130, 3) := by decide +kernel
theorem dX8_rail_93 : decode cX8_rail 93 = .ok (.aload_n 0, 1) := by decide +kernel
theorem dX8_rail_94 : decode cX8_rail 94 = .ok (.aload_n 0, 1) := by decide +kernel
theorem dX8_rail_95 : decode cX8_rail 95 = .ok (.getfield 28, 3) := by decide +kernel
theorem dX8_rail_98 : decode cX8_rail 98 = .ok (.iconst 0, 1) := by decide +kernel
theorem dX8_rail_99 : decode cX8_rail 99 = .ok (.iaload, 1) := by decide +kernel
theorem dX8_rail_100 : decode cX8_rail 100 = .ok (.iconst 2, 1) := by decide +kernel
theorem dX8_rail_101 : decode cX8_rail 101 = .ok (.if_icmp .le 7, 3) := by decide +kernel
theorem dX8_rail_104 : decode cX8_rail 104 = .ok (.iconst 1, 1) := by decide +kernel
theorem dX8_rail_105 : decode cX8_rail 105 = .ok (.goto 4, 3) := by decide +kernel
theorem dX8_rail_108 : decode cX8_rail 108 = .ok (.iconst 0, 1) := by decide +kernel
theorem dX8_rail_109 : decode cX8_rail 109 = .ok (.iconst 4, 1) := by decide +kernel
theorem dX8_rail_110 : decode cX8_rail 110 = .ok (.invokevirtual 130, 3) := by decide +kernel
theorem dX8_rail_113 : decode cX8_rail 113 = .ok (.aload_n 0, 1) := by decide +kernel
theorem dX8_rail_114 : decode cX8_rail 114 = .ok (.iconst 0, 1) := by decide +kernel
theorem dX8_rail_115 : decode cX8_rail 115 = .ok (.putfield 85, 3) := by decide +kernel
theorem dX8_rail_118 : decode cX8_rail 118 = .ok (.aload_n 0, 1) := by decide +kernel
theorem dX8_rail_119 : decode cX8_rail 119 = .ok (.invokevirtual 107, 3) := by decide +kernel
theorem dX8_rail_122 : decode cX8_rail 122 = .ok (.ifCond .ne 11, 3) := by decide +kernel
theorem dX8_rail_125 : decode cX8_rail 125 = .ok (.ldc 134, 2) := by decide +kernel
theorem dX8_rail_127 : decode cX8_rail 127 = .ok (.aload_n 0, 1) := by decide +kernel
theorem dX8_rail_128 : decode cX8_rail 128 = .ok (.getfield 104, 3) := by decide +kernel
theorem dX8_rail_131 : decode cX8_rail 131 = .ok (.isub, 1) := by decide +kernel
theorem dX8_rail_132 : decode cX8_rail 132 = .ok (.ireturn, 1) := by decide +kernel
theorem dX8_rail_133 : decode cX8_rail 133 = .ok (.aload_n 0, 1) := by decide +kernel
theorem dX8_rail_134 : decode cX8_rail 134 = .ok (.getfield 28, 3) := by decide +kernel
theorem dX8_rail_137 : decode cX8_rail 137 = .ok (.iconst 0, 1) := by decide +kernel
theorem dX8_rail_138 : decode cX8_rail 138 = .ok (.aload_n 0, 1) := by decide +kernel
theorem dX8_rail_139 : decode cX8_rail 139 = .ok (.getfield 25, 3) := by decide +kernel
theorem dX8_rail_142 : decode cX8_rail 142 = .ok (.iconst 0, 1) := by decide +kernel
theorem dX8_rail_143 : decode cX8_rail 143 = .ok (.invokestatic 135, 3) := by decide +kernel
theorem dX8_rail_146 : decode cX8_rail 146 = .ok (.aload_n 0, 1) := by decide +kernel
theorem dX8_rail_147 : decode cX8_rail 147 = .ok (.iconst 0, 1) := by decide +kernel
theorem dX8_rail_148 : decode cX8_rail 148 = .ok (.putfield 139, 3) := by decide +kernel
theorem dX8_rail_151 : decode cX8_rail 151 = .ok (.aload_n 0, 1) := by decide +kernel
theorem dX8_rail_152 : decode cX8_rail 152 = .ok (.getfield 25, 3) := by decide +kernel
theorem dX8_rail_155 : decode cX8_rail 155 = .ok (.iconst 0, 1) := by decide +kernel
theorem dX8_rail_156 : decode cX8_rail 156 = .ok (.iaload, 1) := by decide +kernel
theorem dX8_rail_157 : decode cX8_rail 157 = .ok (.ireturn, 1) := by decide +kernel
def rmX8_rail : Room := { frames := 5, cells := 0, slots := 0, locals := 112 }
def jnX8_rail_109 (o0 : Nat) (M13 : zM) (Q : Int32 → zM → Prop) (x14 : Int32) : Prop :=
    wX8_must M13 o0 x14 (4 : Int32) (fun M15 =>
    ∀ M16 : zM, M16 = va_up M15 o0 (upd (M15 o0) 1 (0 : Int32)) →
    wX8_isWell M16 o0 (fun r17 =>
    ((¬ r17 = 0) → (
    wX8_copies M16 (o0 + 7) 50 (0 : Int32) (o0 + 6) 50 (0 : Int32) (fun M18 =>
    ∀ M19 : zM, M19 = va_up M18 o0 (upd (M18 o0) 8 (0 : Int32)) →
    Q (M19 (o0 + 6) (0 : Int32).toNatClampNeg) M19))) ∧
    ((r17 = 0) → (
    Q ((-1000100 : Int32) - (M16 o0 3)) M16))))
def jnX8_rail_89 (o0 : Nat) (M11 : zM) (Q : Int32 → zM → Prop) (x12 : Int32) : Prop :=
    wX8_must M11 o0 x12 (1 : Int32) (fun M13 =>
    (((M13 (o0 + 7) (0 : Int32).toNatClampNeg) ≤ (2 : Int32)) → (
    jnX8_rail_109 o0 M13 Q (0 : Int32))) ∧
    ((¬ (M13 (o0 + 7) (0 : Int32).toNatClampNeg) ≤ (2 : Int32)) → (
    jnX8_rail_109 o0 M13 Q (1 : Int32))))
def jnX8_rail_88 (o0 : Nat) (M11 : zM) (Q : Int32 → zM → Prop)  : Prop :=
    jnX8_rail_89 o0 M11 Q (0 : Int32)
def lpX8_rail_35 (o0 : Nat) (K35_67 : zM → Prop) : Nat → zM → Prop
  | 0, _ => False
  | fu35 + 1, M10 =>
    wX8_isWell M10 o0 (fun r20 =>
    ((r20 = 0) → (
    K35_67 M10)) ∧
    ((¬ r20 = 0) → (
    ((¬ (M10 o0 6) = (1 : Int32)) → (
    K35_67 M10)) ∧
    (((M10 o0 6) = (1 : Int32)) → (
    wX8_kindOf M10 (M10 o0 7) (fun r21 =>
    ((r21 ≤ 0) → (
    K35_67 M10)) ∧
    ((¬ r21 ≤ 0) → (
    wX8_readsPeg M10 o0 (fun M22 =>
    lpX8_rail_35 o0 K35_67 fu35 M22)))))))))
def lpX8_rail_2 (o0 : Nat) (K2_21 : Int32 → zM → Prop) : Nat → Int32 → zM → Prop
  | 0, _, _ => False
  | fu2 + 1, x3, M4 =>
    (((50 : Int32) ≤ x3) → (
    K2_21 x3 M4)) ∧
    ((¬ (50 : Int32) ≤ x3) → (
    vp_in x3 50 ∧
    ∀ M23 : zM, M23 = va_up M4 (o0 + 7) (upd (M4 (o0 + 7)) x3.toNatClampNeg (0 : Int32)) →
    ∀ x24 : Int32, x24 = x3 + (1 : Int32) →
    lpX8_rail_2 o0 K2_21 fu2 x24 M23))
def wX8_rail (M : zM) (o0 : Nat) (Q : Int32 → zM → Prop) : Prop :=
    ∃ fu2 : Nat, lpX8_rail_2 o0 (fun x5 M6 =>
    ∀ M7 : zM, M7 = va_up M6 o0 (upd (M6 o0) 4 (0 : Int32)) →
    ∀ M8 : zM, M8 = va_up M7 o0 (upd (M7 o0) 3 (-1 : Int32)) →
    wX8_advances M8 o0 (fun M9 =>
    ∃ fu35 : Nat, lpX8_rail_35 o0 (fun M11 =>
    (((M11 (o0 + 7) (0 : Int32).toNatClampNeg) ≤ 0) → (
    jnX8_rail_88 o0 M11 Q )) ∧
    ((¬ (M11 (o0 + 7) (0 : Int32).toNatClampNeg) ≤ 0) → (
    ((¬ (M11 o0 6) = 0) → (
    jnX8_rail_88 o0 M11 Q )) ∧
    (((M11 o0 6) = 0) → (
    jnX8_rail_89 o0 M11 Q (1 : Int32)))))) fu35 M9)) fu2 (0 : Int32) M
set_option maxHeartbeats 4000000 in
set_option maxRecDepth 100000 in
theorem kX8_rail {l : Launch} {D : va_G} {Y : zY} {ad kd : Nat → Nat} {RL : List Nat} {M : zM} {J : zL} {o0 : Nat} (h_o0 : kd o0 = 8) {Q : Int32 → zM → Prop} (hq : wX8_rail M o0 Q) : zCi l yX8_rail wsX8_rail rmX8_rail [.ref (ad o0)] D Y ad kd RL M J (fun r M' J' => Q r M' ∧ J = J') := by
  refine z_meti (cc := cX8_rail) (maxL := 2) (ret := (some .int)) (by decide) rfl (Nat.le_of_ble_eq_true rfl) ?_
  intro p e s m below meth c ls A ar QE hQE hx hb hr hml hown hts hlk hw hl
  have hown : s.vm.findClass RX8 = some m.cls := hown
  have hl : lv_has ls 2 [(0, .ref (ad o0))] := hl
  have hC := hw.2.2.2.2.2.1
  have g8 : ∀ w ∈ wsX80, w.before ar s = true := (fun w h => hts w (List.mem_cons_of_mem _ (List.mem_append_right _ h)))
  have q1 := hts _ (List.mem_of_getElem? (i := 1) rfl)
  have q2 := hts _ (List.mem_of_getElem? (i := 2) rfl)
  have q3 := hts _ (List.mem_of_getElem? (i := 3) rfl)
  have q4 := hts _ (List.mem_of_getElem? (i := 4) rfl)
  have q5 := hts _ (List.mem_of_getElem? (i := 5) rfl)
  have q6 := hts _ (List.mem_of_getElem? (i := 6) rfl)
  have q7 := hts _ (List.mem_of_getElem? (i := 7) rfl)
  have q8 := hts _ (List.mem_of_getElem? (i := 8) rfl)
  have q9 := hts _ (List.mem_of_getElem? (i := 9) rfl)
  unfold wX8_rail at hq
  refine lv_iconst (v := (0 : Int32)) hx hb dX8_rail_0 (by decide) ?_
  refine lv_istore_n (lv' := [(1, .int (0 : Int32)), (0, .ref (ad o0))]) hx hb dX8_rail_1 rfl hl (by decide) rfl (fun ls hl => ?_)
  have ex2_21 : ∀ (x5 : Int32) (M6 : zM) (H : Heap) (locs : List Loc) (ls : Array Slot), (∀ M7 : zM, M7 = va_up M6 o0 (upd (M6 o0) 4 (0 : Int32)) → ∀ M8 : zM, M8 = va_up M7 o0 (upd (M7 o0) 3 (-1 : Int32)) → wX8_advances M8 o0 (fun M9 => ∃ fu35 : Nat, lpX8_rail_35 o0 (fun M11 => (((M11 (o0 + 7) (0 : Int32).toNatClampNeg) ≤ 0) → ( jnX8_rail_88 o0 M11 Q )) ∧ ((¬ (M11 (o0 + 7) (0 : Int32).toNatClampNeg) ≤ 0) → ( ((¬ (M11 o0 6) = 0) → ( jnX8_rail_88 o0 M11 Q )) ∧ (((M11 o0 6) = 0) → ( jnX8_rail_89 o0 M11 Q (1 : Int32)))))) fu35 M9)) → zH D Y ad kd RL M6 J A s.heap H locs s → lv_has ls 2 [(0, .ref (ad o0))] → W p l e rmX8_rail s m ar below meth c H locs 0 0 QE (F0 m 21 ls []) := by
    intro x5 M6 H locs ls hq hw hl
    refine lv_aload_n hx hb dX8_rail_21 rfl (lv_at hl 0 rfl) ?_
    refine lv_iconst (v := (0 : Int32)) hx hb dX8_rail_22 (by decide) ?_
    refine zp8_at hx hb g8 hown hw h_o0 q2 dX8_rail_23 (fun H locs hw => ?_)
    obtain ⟨M7, e_M7⟩ : ∃ y : zM, y = va_up M6 o0 (upd (M6 o0) 4 (0 : Int32)) := ⟨_, rfl⟩
    rw [← e_M7] at hw
    have hq := hq M7 e_M7
    refine lv_aload_n hx hb dX8_rail_26 rfl (lv_at hl 0 rfl) ?_
    refine lv_iconst (v := (-1 : Int32)) hx hb dX8_rail_27 (by decide) ?_
    refine zp8_faultPlace hx hb g8 hown hw h_o0 q3 dX8_rail_28 (fun H locs hw => ?_)
    obtain ⟨M8, e_M8⟩ : ∃ y : zM, y = va_up M7 o0 (upd (M7 o0) 3 (-1 : Int32)) := ⟨_, rfl⟩
    rw [← e_M8] at hw
    have hq := hq M8 e_M8
    refine lv_aload_n hx hb dX8_rail_31 rfl (lv_at hl 0 rfl) ?_
    refine z_cvv ⟨hx, hb, hml, hown, hts⟩ hw h_o0 (kX8_advances h_o0 hq) (by decide) rfl (cwV 0 hts gX8_rail_X8_advances rfl rfl rfl (by decide +kernel) ⟨Nat.le_of_ble_eq_true rfl, Nat.le_of_ble_eq_true rfl⟩) rfl hl.1 rfl (Nat.le_of_ble_eq_true rfl) dX8_rail_32 ⟨Nat.zero_le _, Nat.zero_le _⟩ (fun M9 J0 H locs hq hw => ?_)
    obtain ⟨hq, rfl⟩ := hq
    have ex35_67 : ∀ (M11 : zM) (H : Heap) (locs : List Loc) (ls : Array Slot), ((((M11 (o0 + 7) (0 : Int32).toNatClampNeg) ≤ 0) → ( jnX8_rail_88 o0 M11 Q )) ∧ ((¬ (M11 (o0 + 7) (0 : Int32).toNatClampNeg) ≤ 0) → ( ((¬ (M11 o0 6) = 0) → ( jnX8_rail_88 o0 M11 Q )) ∧ (((M11 o0 6) = 0) → ( jnX8_rail_89 o0 M11 Q (1 : Int32)))))) → zH D Y ad kd RL M11 J A s.heap H locs s → lv_has ls 2 [(0, .ref (ad o0))] → W p l e rmX8_rail s m ar below meth c H locs 0 0 QE (F0 m 67 ls []) := by
      intro M11 H locs ls hq hw hl
      refine lv_aload_n hx hb dX8_rail_67 rfl (lv_at hl 0 rfl) ?_
      refine lv_aload_n hx hb dX8_rail_68 rfl (lv_at hl 0 rfl) ?_
      refine zg8_draft hx hb g8 hown hw h_o0 q1 dX8_rail_69 ?_
      refine lv_iconst (v := (0 : Int32)) hx hb dX8_rail_72 (by decide) ?_
      have hi : vp_in (0 : Int32) 50 := by unfold vp_in; decide
      refine z_iald (n := 50) hx hb hw (zk_8_7 hC h_o0) hi dX8_rail_73 ?_
      have jn89 : ∀ (x12 : Int32) (H : Heap) (locs : List Loc) (ls : Array Slot), jnX8_rail_89 o0 M11 Q x12 → zH D Y ad kd RL M11 J A s.heap H locs s → lv_has ls 2 [(0, .ref (ad o0))] → W p l e rmX8_rail s m ar below meth c H locs 0 0 QE (F0 m 89 ls [.int x12, .ref (ad o0)]) := by
        intro x12 H locs ls hq hw hl
        unfold jnX8_rail_89 at hq
        refine lv_iconst (v := (1 : Int32)) hx hb dX8_rail_89 (by decide) ?_
        refine z_cvv ⟨hx, hb, hml, hown, hts⟩ hw h_o0 (kX8_must h_o0 hq) (by decide) rfl (cwV 2 hts gX8_rail_X8_must rfl rfl rfl (by decide +kernel) ⟨Nat.le_of_ble_eq_true rfl, Nat.le_of_ble_eq_true rfl⟩) rfl hl.1 rfl (Nat.le_of_ble_eq_true rfl) dX8_rail_90 ⟨Nat.zero_le _, Nat.zero_le _⟩ (fun M13 J0 H locs hq hw => ?_)
        obtain ⟨hq, rfl⟩ := hq
        refine lv_aload_n hx hb dX8_rail_93 rfl (lv_at hl 0 rfl) ?_
        refine lv_aload_n hx hb dX8_rail_94 rfl (lv_at hl 0 rfl) ?_
        refine zg8_draft hx hb g8 hown hw h_o0 q1 dX8_rail_95 ?_
        refine lv_iconst (v := (0 : Int32)) hx hb dX8_rail_98 (by decide) ?_
        have hi : vp_in (0 : Int32) 50 := by unfold vp_in; decide
        refine z_iald (n := 50) hx hb hw (zk_8_7 hC h_o0) hi dX8_rail_99 ?_
        refine lv_iconst (v := (2 : Int32)) hx hb dX8_rail_100 (by decide) ?_
        have jn109 : ∀ (x14 : Int32) (H : Heap) (locs : List Loc) (ls : Array Slot), jnX8_rail_109 o0 M13 Q x14 → zH D Y ad kd RL M13 J A s.heap H locs s → lv_has ls 2 [(0, .ref (ad o0))] → W p l e rmX8_rail s m ar below meth c H locs 0 0 QE (F0 m 109 ls [.int x14, .ref (ad o0)]) := by
          intro x14 H locs ls hq hw hl
          unfold jnX8_rail_109 at hq
          refine lv_iconst (v := (4 : Int32)) hx hb dX8_rail_109 (by decide) ?_
          refine z_cvv ⟨hx, hb, hml, hown, hts⟩ hw h_o0 (kX8_must h_o0 hq) (by decide) rfl (cwV 2 hts gX8_rail_X8_must rfl rfl rfl (by decide +kernel) ⟨Nat.le_of_ble_eq_true rfl, Nat.le_of_ble_eq_true rfl⟩) rfl hl.1 rfl (Nat.le_of_ble_eq_true rfl) dX8_rail_110 ⟨Nat.zero_le _, Nat.zero_le _⟩ (fun M15 J0 H locs hq hw => ?_)
          obtain ⟨hq, rfl⟩ := hq
          refine lv_aload_n hx hb dX8_rail_113 rfl (lv_at hl 0 rfl) ?_
          refine lv_iconst (v := (0 : Int32)) hx hb dX8_rail_114 (by decide) ?_
          refine zp8_taped hx hb g8 hown hw h_o0 q6 dX8_rail_115 (fun H locs hw => ?_)
          obtain ⟨M16, e_M16⟩ : ∃ y : zM, y = va_up M15 o0 (upd (M15 o0) 1 (0 : Int32)) := ⟨_, rfl⟩
          rw [← e_M16] at hw
          have hq := hq M16 e_M16
          refine lv_aload_n hx hb dX8_rail_118 rfl (lv_at hl 0 rfl) ?_
          refine z_cvi ⟨hx, hb, hml, hown, hts⟩ hw h_o0 (kX8_isWell h_o0 hq) (by decide) rfl (cwV 0 hts gX8_rail_X8_isWell rfl rfl rfl (by decide +kernel) ⟨Nat.le_of_ble_eq_true rfl, Nat.le_of_ble_eq_true rfl⟩) rfl hl.1 rfl (Nat.le_of_ble_eq_true rfl) dX8_rail_119 ⟨Nat.zero_le _, Nat.zero_le _⟩ (fun r17 M0 J0 H locs hq hw => ?_)
          obtain ⟨hq, rfl, rfl⟩ := hq
          refine lv_if_ne (tgt := 133) hx hb dX8_rail_122 (by decide) (fun hc => ?_) (fun hc => ?_)
          · have hq := hq.1 hc
            refine lv_aload_n hx hb dX8_rail_133 rfl (lv_at hl 0 rfl) ?_
            refine zg8_draft hx hb g8 hown hw h_o0 q1 dX8_rail_134 ?_
            refine lv_iconst (v := (0 : Int32)) hx hb dX8_rail_137 (by decide) ?_
            refine lv_aload_n hx hb dX8_rail_138 rfl (lv_at hl 0 rfl) ?_
            refine zg8_now hx hb g8 hown hw h_o0 q8 dX8_rail_139 ?_
            refine lv_iconst (v := (0 : Int32)) hx hb dX8_rail_142 (by decide) ?_
            refine z_csv ⟨hx, hb, hml, hown, hts⟩ hw (kX8_copies (zk_8_7 hC h_o0) (zk_8_6 hC h_o0) hq) (va_cwS 4 hts gX8_rail_X8_copies rfl rfl rfl (by decide +kernel) ⟨Nat.le_of_ble_eq_true rfl, Nat.le_of_ble_eq_true rfl⟩) rfl hl.1 rfl (Nat.le_of_ble_eq_true rfl) dX8_rail_143 ⟨Nat.zero_le _, Nat.zero_le _⟩ (fun M18 J0 H locs hq hw => ?_)
            obtain ⟨hq, rfl⟩ := hq
            refine lv_aload_n hx hb dX8_rail_146 rfl (lv_at hl 0 rfl) ?_
            refine lv_iconst (v := (0 : Int32)) hx hb dX8_rail_147 (by decide) ?_
            refine zp8_acts hx hb g8 hown hw h_o0 q9 dX8_rail_148 (fun H locs hw => ?_)
            obtain ⟨M19, e_M19⟩ : ∃ y : zM, y = va_up M18 o0 (upd (M18 o0) 8 (0 : Int32)) := ⟨_, rfl⟩
            rw [← e_M19] at hw
            have hq := hq M19 e_M19
            refine lv_aload_n hx hb dX8_rail_151 rfl (lv_at hl 0 rfl) ?_
            refine zg8_now hx hb g8 hown hw h_o0 q8 dX8_rail_152 ?_
            refine lv_iconst (v := (0 : Int32)) hx hb dX8_rail_155 (by decide) ?_
            have hi : vp_in (0 : Int32) 50 := by unfold vp_in; decide
            refine z_iald (n := 50) hx hb hw (zk_8_6 hC h_o0) hi dX8_rail_156 ?_
            exact z_iret hQE hx hb hr hlk hw dX8_rail_157 ⟨hq, rfl⟩
          · have hq := hq.2 hc
            refine lv_ldc (v := (-1000100 : Int32)) hx hb hown q7 dX8_rail_125 ?_
            refine lv_aload_n hx hb dX8_rail_127 rfl (lv_at hl 0 rfl) ?_
            refine zg8_faultPlace hx hb g8 hown hw h_o0 q3 dX8_rail_128 ?_
            refine lv_isub hx hb dX8_rail_131 ?_
            exact z_iret hQE hx hb hr hlk hw dX8_rail_132 ⟨hq, rfl⟩
        refine lv_icmp_le (tgt := 108) hx hb dX8_rail_101 (by decide) (fun hc => ?_) (fun hc => ?_)
        · have hq := hq.1 hc
          refine lv_iconst (v := (0 : Int32)) hx hb dX8_rail_108 (by decide) ?_
          exact jn109 (0 : Int32) _ _ _ hq hw (lv_sub hl [0] rfl)
        · have hq := hq.2 hc
          refine lv_iconst (v := (1 : Int32)) hx hb dX8_rail_104 (by decide) ?_
          refine lv_goto (tgt := 109) hx hb dX8_rail_105 (by decide) ?_
          exact jn109 (1 : Int32) _ _ _ hq hw (lv_sub hl [0] rfl)
      have jn88 : ∀ (H : Heap) (locs : List Loc) (ls : Array Slot), jnX8_rail_88 o0 M11 Q  → zH D Y ad kd RL M11 J A s.heap H locs s → lv_has ls 2 [(0, .ref (ad o0))] → W p l e rmX8_rail s m ar below meth c H locs 0 0 QE (F0 m 88 ls [.ref (ad o0)]) := by
        intro  H locs ls hq hw hl
        unfold jnX8_rail_88 at hq
        refine lv_iconst (v := (0 : Int32)) hx hb dX8_rail_88 (by decide) ?_
        exact jn89 (0 : Int32) _ _ _ hq hw (lv_sub hl [0] rfl)
      refine lv_if_le (tgt := 88) hx hb dX8_rail_74 (by decide) (fun hc => ?_) (fun hc => ?_)
      · have hq := hq.1 hc
        exact jn88  _ _ _ hq hw (lv_sub hl [0] rfl)
      · have hq := hq.2 hc
        refine lv_aload_n hx hb dX8_rail_77 rfl (lv_at hl 0 rfl) ?_
        refine zg8_token hx hb g8 hown hw h_o0 q4 dX8_rail_78 ?_
        refine lv_if_ne (tgt := 88) hx hb dX8_rail_81 (by decide) (fun hc => ?_) (fun hc => ?_)
        · have hq := hq.1 hc
          exact jn88  _ _ _ hq hw (lv_sub hl [0] rfl)
        · have hq := hq.2 hc
          refine lv_iconst (v := (1 : Int32)) hx hb dX8_rail_84 (by decide) ?_
          refine lv_goto (tgt := 89) hx hb dX8_rail_85 (by decide) ?_
          exact jn89 (1 : Int32) _ _ _ hq hw (lv_sub hl [0] rfl)
    obtain ⟨fu35, hq⟩ := hq
    have lp35 : ∀ (fu35 : Nat) (M10 : zM) (H : Heap) (locs : List Loc) (ls : Array Slot), lpX8_rail_35 o0 (fun M11 => (((M11 (o0 + 7) (0 : Int32).toNatClampNeg) ≤ 0) → ( jnX8_rail_88 o0 M11 Q )) ∧ ((¬ (M11 (o0 + 7) (0 : Int32).toNatClampNeg) ≤ 0) → ( ((¬ (M11 o0 6) = 0) → ( jnX8_rail_88 o0 M11 Q )) ∧ (((M11 o0 6) = 0) → ( jnX8_rail_89 o0 M11 Q (1 : Int32)))))) fu35 M10 → zH D Y ad kd RL M10 J A s.heap H locs s → lv_has ls 2 [(0, .ref (ad o0))] → W p l e rmX8_rail s m ar below meth c H locs 0 0 QE (F0 m 35 ls []) := by
      intro fu35
      induction fu35 with
      | zero => intro M10 H locs ls hq; exact hq.elim
      | succ fu35 ih35 =>
        intro M10 H locs ls hq hw hl
        unfold lpX8_rail_35 at hq
        refine lv_aload_n hx hb dX8_rail_35 rfl (lv_at hl 0 rfl) ?_
        refine z_cvi ⟨hx, hb, hml, hown, hts⟩ hw h_o0 (kX8_isWell h_o0 hq) (by decide) rfl (cwV 0 hts gX8_rail_X8_isWell rfl rfl rfl (by decide +kernel) ⟨Nat.le_of_ble_eq_true rfl, Nat.le_of_ble_eq_true rfl⟩) rfl hl.1 rfl (Nat.le_of_ble_eq_true rfl) dX8_rail_36 ⟨Nat.zero_le _, Nat.zero_le _⟩ (fun r20 M0 J0 H locs hq hw => ?_)
        obtain ⟨hq, rfl, rfl⟩ := hq
        refine lv_if_eq (tgt := 67) hx hb dX8_rail_39 (by decide) (fun hc => ?_) (fun hc => ?_)
        · have hq := hq.1 hc
          exact ex35_67 M10 _ _ _ hq hw (lv_sub hl [0] rfl)
        · have hq := hq.2 hc
          refine lv_aload_n hx hb dX8_rail_42 rfl (lv_at hl 0 rfl) ?_
          refine zg8_token hx hb g8 hown hw h_o0 q4 dX8_rail_43 ?_
          refine lv_iconst (v := (1 : Int32)) hx hb dX8_rail_46 (by decide) ?_
          refine lv_icmp_ne (tgt := 67) hx hb dX8_rail_47 (by decide) (fun hc => ?_) (fun hc => ?_)
          · have hq := hq.1 hc
            exact ex35_67 M10 _ _ _ hq hw (lv_sub hl [0] rfl)
          · have hq := hq.2 hc
            refine lv_aload_n hx hb dX8_rail_50 rfl (lv_at hl 0 rfl) ?_
            refine zg8_value hx hb g8 hown hw h_o0 q5 dX8_rail_51 ?_
            refine z_csi ⟨hx, hb, hml, hown, hts⟩ hw (kX8_kindOf  hq) (va_cwS 1 hts gX8_rail_X8_kindOf rfl rfl rfl (by decide +kernel) ⟨Nat.le_of_ble_eq_true rfl, Nat.le_of_ble_eq_true rfl⟩) rfl hl.1 rfl (Nat.le_of_ble_eq_true rfl) dX8_rail_54 ⟨Nat.zero_le _, Nat.zero_le _⟩ (fun r21 M0 J0 H locs hq hw => ?_)
            obtain ⟨hq, rfl, rfl⟩ := hq
            refine lv_if_le (tgt := 67) hx hb dX8_rail_57 (by decide) (fun hc => ?_) (fun hc => ?_)
            · have hq := hq.1 hc
              exact ex35_67 M10 _ _ _ hq hw (lv_sub hl [0] rfl)
            · have hq := hq.2 hc
              refine lv_aload_n hx hb dX8_rail_60 rfl (lv_at hl 0 rfl) ?_
              refine z_cvv ⟨hx, hb, hml, hown, hts⟩ hw h_o0 (kX8_readsPeg h_o0 hq) (by decide) rfl (cwV 0 hts gX8_rail_X8_readsPeg rfl rfl rfl (by decide +kernel) ⟨Nat.le_of_ble_eq_true rfl, Nat.le_of_ble_eq_true rfl⟩) rfl hl.1 rfl (Nat.le_of_ble_eq_true rfl) dX8_rail_61 ⟨Nat.zero_le _, Nat.zero_le _⟩ (fun M22 J0 H locs hq hw => ?_)
              obtain ⟨hq, rfl⟩ := hq
              refine lv_goto (tgt := 35) hx hb dX8_rail_64 (by decide) ?_
              exact ih35 M22 _ _ _ hq hw (lv_sub hl [0] rfl)
    exact lp35 fu35 M9 _ _ _ hq hw (lv_sub hl [0] rfl)
  obtain ⟨fu2, hq⟩ := hq
  have lp2 : ∀ (fu2 : Nat) (x3 : Int32) (M4 : zM) (H : Heap) (locs : List Loc) (ls : Array Slot), lpX8_rail_2 o0 (fun x5 M6 => ∀ M7 : zM, M7 = va_up M6 o0 (upd (M6 o0) 4 (0 : Int32)) → ∀ M8 : zM, M8 = va_up M7 o0 (upd (M7 o0) 3 (-1 : Int32)) → wX8_advances M8 o0 (fun M9 => ∃ fu35 : Nat, lpX8_rail_35 o0 (fun M11 => (((M11 (o0 + 7) (0 : Int32).toNatClampNeg) ≤ 0) → ( jnX8_rail_88 o0 M11 Q )) ∧ ((¬ (M11 (o0 + 7) (0 : Int32).toNatClampNeg) ≤ 0) → ( ((¬ (M11 o0 6) = 0) → ( jnX8_rail_88 o0 M11 Q )) ∧ (((M11 o0 6) = 0) → ( jnX8_rail_89 o0 M11 Q (1 : Int32)))))) fu35 M9)) fu2 x3 M4 → zH D Y ad kd RL M4 J A s.heap H locs s → lv_has ls 2 [(0, .ref (ad o0)), (1, .int x3)] → W p l e rmX8_rail s m ar below meth c H locs 0 0 QE (F0 m 2 ls []) := by
    intro fu2
    induction fu2 with
    | zero => intro x3 M4 H locs ls hq; exact hq.elim
    | succ fu2 ih2 =>
      intro x3 M4 H locs ls hq hw hl
      unfold lpX8_rail_2 at hq
      refine lv_iload_n hx hb dX8_rail_2 rfl (lv_at hl 1 rfl) ?_
      refine lv_bipush (v := (50 : Int32)) hx hb dX8_rail_3 (by decide) ?_
      refine lv_icmp_ge (tgt := 21) hx hb dX8_rail_5 (by decide) (fun hc => ?_) (fun hc => ?_)
      · have hq := hq.1 hc
        exact ex2_21 x3 M4 _ _ _ hq hw (lv_sub hl [0] rfl)
      · have hq := hq.2 hc
        refine lv_aload_n hx hb dX8_rail_8 rfl (lv_at hl 0 rfl) ?_
        refine zg8_draft hx hb g8 hown hw h_o0 q1 dX8_rail_9 ?_
        refine lv_iload_n hx hb dX8_rail_12 rfl (lv_at hl 1 rfl) ?_
        refine lv_iconst (v := (0 : Int32)) hx hb dX8_rail_13 (by decide) ?_
        obtain ⟨hi, hq⟩ := hq
        refine z_iast (n := 50) hx hb hw (zk_8_7 hC h_o0) hi dX8_rail_14 (fun H locs hw => ?_)
        obtain ⟨M23, e_M23⟩ : ∃ y : zM, y = va_up M4 (o0 + 7) (upd (M4 (o0 + 7)) x3.toNatClampNeg (0 : Int32)) := ⟨_, rfl⟩
        rw [← e_M23] at hw
        have hq := hq M23 e_M23
        obtain ⟨x24, e_x24⟩ : ∃ y : Int32, y = x3 + (1 : Int32) := ⟨_, rfl⟩
        have hq := hq x24 e_x24
        refine lv_iinc (v := x24) (lv' := [(1, .int x24), (0, .ref (ad o0))]) hx hb dX8_rail_15 hl (k := 1) rfl (by rw [e_x24]; rfl) (by decide) rfl (fun ls hl => ?_)
        refine lv_goto (tgt := 2) hx hb dX8_rail_18 (by decide) ?_
        exact ih2 x24 M23 _ _ _ hq hw (lv_sub hl [1, 0] rfl)
  exact lp2 fu2 (0 : Int32) M _ _ _ hq hw (lv_sub hl [1, 0] rfl)
theorem dX8_fault_0 : decode cX8_fault 0 = .ok (.aload_n 0, 1) := by decide +kernel
theorem dX8_fault_1 : decode cX8_fault 1 = .ok (.getfield 111, 3) := by decide +kernel
theorem dX8_fault_4 : decode cX8_fault 4 = .ok (.ireturn, 1) := by decide +kernel
def rmX8_fault : Room := { frames := 0, cells := 0, slots := 0, locals := 0 }
def wX8_fault (M : zM) (o0 : Nat) (Q : Int32 → Prop) : Prop :=
    Q (M o0 2)
set_option maxHeartbeats 4000000 in
set_option maxRecDepth 100000 in
theorem kX8_fault {l : Launch} {D : va_G} {Y : zY} {ad kd : Nat → Nat} {RL : List Nat} {M : zM} {J : zL} {o0 : Nat} (h_o0 : kd o0 = 8) {Q : Int32 → Prop} (hq : wX8_fault M o0 Q) : zCi l yX8_fault wsX8_fault rmX8_fault [.ref (ad o0)] D Y ad kd RL M J (fun r M' J' => Q r ∧ M = M' ∧ J = J') := by
  refine z_meti (cc := cX8_fault) (maxL := 1) (ret := (some .int)) (by decide) rfl (Nat.le_of_ble_eq_true rfl) ?_
  intro p e s m below meth c ls A ar QE hQE hx hb hr hml hown hts hlk hw hl
  have hown : s.vm.findClass RX8 = some m.cls := hown
  have hl : lv_has ls 1 [(0, .ref (ad o0))] := hl
  have hC := hw.2.2.2.2.2.1
  have g8 : ∀ w ∈ wsX80, w.before ar s = true := (fun w h => hts w (List.mem_cons_of_mem _ (List.mem_append_right _ h)))
  have q1 := hts _ (List.mem_of_getElem? (i := 1) rfl)
  unfold wX8_fault at hq
  refine lv_aload_n hx hb dX8_fault_0 rfl (lv_at hl 0 rfl) ?_
  refine zg8_faultKind hx hb g8 hown hw h_o0 q1 dX8_fault_1 ?_
  exact z_iret hQE hx hb hr hlk hw dX8_fault_4 ⟨hq, rfl, rfl⟩
theorem dX8_isRail_0 : decode cX8_isRail 0 = .ok (.aload_n 0, 1) := by decide +kernel
theorem dX8_isRail_1 : decode cX8_isRail 1 = .ok (.getfield 25, 3) := by decide +kernel
theorem dX8_isRail_4 : decode cX8_isRail 4 = .ok (.iconst 0, 1) := by decide +kernel
theorem dX8_isRail_5 : decode cX8_isRail 5 = .ok (.iaload, 1) := by decide +kernel
theorem dX8_isRail_6 : decode cX8_isRail 6 = .ok (.ifCond .le 7, 3) := by decide +kernel
theorem dX8_isRail_9 : decode cX8_isRail 9 = .ok (.iconst 1, 1) := by decide +kernel
theorem dX8_isRail_10 : decode cX8_isRail 10 = .ok (.goto 4, 3) := by decide +kernel
theorem dX8_isRail_13 : decode cX8_isRail 13 = .ok (.iconst 0, 1) := by decide +kernel
theorem dX8_isRail_14 : decode cX8_isRail 14 = .ok (.ireturn, 1) := by decide +kernel
def rmX8_isRail : Room := { frames := 0, cells := 0, slots := 0, locals := 0 }
def wX8_isRail (M : zM) (o0 : Nat) (Q : Int32 → Prop) : Prop :=
    (((M (o0 + 6) (0 : Int32).toNatClampNeg) ≤ 0) → (
    Q (0 : Int32))) ∧
    ((¬ (M (o0 + 6) (0 : Int32).toNatClampNeg) ≤ 0) → (
    Q (1 : Int32)))
set_option maxHeartbeats 4000000 in
set_option maxRecDepth 100000 in
theorem kX8_isRail {l : Launch} {D : va_G} {Y : zY} {ad kd : Nat → Nat} {RL : List Nat} {M : zM} {J : zL} {o0 : Nat} (h_o0 : kd o0 = 8) {Q : Int32 → Prop} (hq : wX8_isRail M o0 Q) : zCi l yX8_isRail wsX8_isRail rmX8_isRail [.ref (ad o0)] D Y ad kd RL M J (fun r M' J' => Q r ∧ M = M' ∧ J = J') := by
  refine z_meti (cc := cX8_isRail) (maxL := 1) (ret := (some .boolean)) (by decide) rfl (Nat.le_of_ble_eq_true rfl) ?_
  intro p e s m below meth c ls A ar QE hQE hx hb hr hml hown hts hlk hw hl
  have hown : s.vm.findClass RX8 = some m.cls := hown
  have hl : lv_has ls 1 [(0, .ref (ad o0))] := hl
  have hC := hw.2.2.2.2.2.1
  have g8 : ∀ w ∈ wsX80, w.before ar s = true := (fun w h => hts w (List.mem_cons_of_mem _ (List.mem_append_right _ h)))
  have q1 := hts _ (List.mem_of_getElem? (i := 1) rfl)
  unfold wX8_isRail at hq
  refine lv_aload_n hx hb dX8_isRail_0 rfl (lv_at hl 0 rfl) ?_
  refine zg8_now hx hb g8 hown hw h_o0 q1 dX8_isRail_1 ?_
  refine lv_iconst (v := (0 : Int32)) hx hb dX8_isRail_4 (by decide) ?_
  have hi : vp_in (0 : Int32) 50 := by unfold vp_in; decide
  refine z_iald (n := 50) hx hb hw (zk_8_6 hC h_o0) hi dX8_isRail_5 ?_
  refine lv_if_le (tgt := 13) hx hb dX8_isRail_6 (by decide) (fun hc => ?_) (fun hc => ?_)
  · have hq := hq.1 hc
    refine lv_iconst (v := (0 : Int32)) hx hb dX8_isRail_13 (by decide) ?_
    exact z_zret hQE hx hb hr hlk hw dX8_isRail_14 (by decide) ⟨hq, rfl, rfl⟩
  · have hq := hq.2 hc
    refine lv_iconst (v := (1 : Int32)) hx hb dX8_isRail_9 (by decide) ?_
    refine lv_goto (tgt := 14) hx hb dX8_isRail_10 (by decide) ?_
    exact z_zret hQE hx hb hr hlk hw dX8_isRail_14 (by decide) ⟨hq, rfl, rfl⟩
set_option maxRecDepth 20000 in
theorem ggX8_isPeg_X8_in : GoodIn wsX8_isPeg wsX8_in := goodIn_r _ [5] (by decide +kernel) (by decide +kernel)
set_option maxRecDepth 20000 in
theorem gX8_isPeg_X8_in : GoodIn wsX8_isPeg (va_wsS RX8 59 yX8_in wsX8_in) := goodIn_app (goodIn_of _ (by decide +kernel)) ggX8_isPeg_X8_in
theorem dX8_isPeg_0 : decode cX8_isPeg 0 = .ok (.iload_n 1, 1) := by decide +kernel
theorem dX8_isPeg_1 : decode cX8_isPeg 1 = .ok (.iconst 0, 1) := by decide +kernel
theorem dX8_isPeg_2 : decode cX8_isPeg 2 = .ok (.aload_n 0, 1) := by decide +kernel
theorem dX8_isPeg_3 : decode cX8_isPeg 3 = .ok (.getfield 25, 3) := by decide +kernel
theorem dX8_isPeg_6 : decode cX8_isPeg 6 = .ok (.iconst 0, 1) := by decide +kernel
theorem dX8_isPeg_7 : decode cX8_isPeg 7 = .ok (.iaload, 1) := by decide +kernel
theorem dX8_isPeg_8 : decode cX8_isPeg 8 = .ok (.iconst 1, 1) := by decide +kernel
theorem dX8_isPeg_9 : decode cX8_isPeg 9 = .ok (.isub, 1) := by decide +kernel
theorem dX8_isPeg_10 : decode cX8_isPeg 10 = .ok (.invokestatic 59, 3) := by decide +kernel
theorem dX8_isPeg_13 : decode cX8_isPeg 13 = .ok (.ireturn, 1) := by decide +kernel
def rmX8_isPeg : Room := { frames := 1, cells := 0, slots := 0, locals := 22 }
def wX8_isPeg (M : zM) (o0 : Nat) (x1 : Int32) (Q : Int32 → Prop) : Prop :=
    ∀ x4 : Int32, x4 = ((M (o0 + 6) (0 : Int32).toNatClampNeg) - (1 : Int32)) →
    wX8_in M x1 (0 : Int32) x4 (fun r5 =>
    narrow .boolean (.int r5) = .int r5 ∧
    Q r5)
set_option maxHeartbeats 4000000 in
set_option maxRecDepth 100000 in
theorem kX8_isPeg {l : Launch} {D : va_G} {Y : zY} {ad kd : Nat → Nat} {RL : List Nat} {M : zM} {J : zL} {o0 : Nat} {x1 : Int32} (h_o0 : kd o0 = 8) {Q : Int32 → Prop} (hq : wX8_isPeg M o0 x1 Q) : zCi l yX8_isPeg wsX8_isPeg rmX8_isPeg [.ref (ad o0), .int x1] D Y ad kd RL M J (fun r M' J' => Q r ∧ M = M' ∧ J = J') := by
  refine z_meti (cc := cX8_isPeg) (maxL := 2) (ret := (some .boolean)) (by decide) rfl (Nat.le_of_ble_eq_true rfl) ?_
  intro p e s m below meth c ls A ar QE hQE hx hb hr hml hown hts hlk hw hl
  have hown : s.vm.findClass RX8 = some m.cls := hown
  have hl : lv_has ls 2 [(0, .ref (ad o0)), (1, .int x1)] := hl
  have hC := hw.2.2.2.2.2.1
  have g8 : ∀ w ∈ wsX80, w.before ar s = true := (fun w h => hts w (List.mem_cons_of_mem _ (List.mem_append_right _ h)))
  have q1 := hts _ (List.mem_of_getElem? (i := 1) rfl)
  unfold wX8_isPeg at hq
  refine lv_iload_n hx hb dX8_isPeg_0 rfl (lv_at hl 1 rfl) ?_
  refine lv_iconst (v := (0 : Int32)) hx hb dX8_isPeg_1 (by decide) ?_
  refine lv_aload_n hx hb dX8_isPeg_2 rfl (lv_at hl 0 rfl) ?_
  refine zg8_now hx hb g8 hown hw h_o0 q1 dX8_isPeg_3 ?_
  refine lv_iconst (v := (0 : Int32)) hx hb dX8_isPeg_6 (by decide) ?_
  have hi : vp_in (0 : Int32) 50 := by unfold vp_in; decide
  refine z_iald (n := 50) hx hb hw (zk_8_6 hC h_o0) hi dX8_isPeg_7 ?_
  refine lv_iconst (v := (1 : Int32)) hx hb dX8_isPeg_8 (by decide) ?_
  refine lv_isub hx hb dX8_isPeg_9 ?_
  refine lv_topi (fun x4 e_x4 => ?_)
  have hq := hq x4 e_x4
  refine z_csi ⟨hx, hb, hml, hown, hts⟩ hw (kX8_in  hq) (va_cwS 3 hts gX8_isPeg_X8_in rfl rfl rfl (by decide +kernel) ⟨Nat.le_of_ble_eq_true rfl, Nat.le_of_ble_eq_true rfl⟩) rfl hl.1 rfl (Nat.le_of_ble_eq_true rfl) dX8_isPeg_10 ⟨Nat.zero_le _, Nat.zero_le _⟩ (fun r5 M0 J0 H locs hq hw => ?_)
  obtain ⟨hq, rfl, rfl⟩ := hq
  obtain ⟨hn, hq⟩ := hq
  exact z_zret hQE hx hb hr hlk hw dX8_isPeg_13 hn ⟨hq, rfl, rfl⟩
theorem dX8_reach_0 : decode cX8_reach 0 = .ok (.aload_n 0, 1) := by decide +kernel
theorem dX8_reach_1 : decode cX8_reach 1 = .ok (.iconst 2, 1) := by decide +kernel
theorem dX8_reach_2 : decode cX8_reach 2 = .ok (.iconst 4, 1) := by decide +kernel
theorem dX8_reach_3 : decode cX8_reach 3 = .ok (.iload_n 1, 1) := by decide +kernel
theorem dX8_reach_4 : decode cX8_reach 4 = .ok (.imul, 1) := by decide +kernel
theorem dX8_reach_5 : decode cX8_reach 5 = .ok (.iadd, 1) := by decide +kernel
theorem dX8_reach_6 : decode cX8_reach 6 = .ok (.iconst 2, 1) := by decide +kernel
theorem dX8_reach_7 : decode cX8_reach 7 = .ok (.iadd, 1) := by decide +kernel
theorem dX8_reach_8 : decode cX8_reach 8 = .ok (.iaload, 1) := by decide +kernel
theorem dX8_reach_9 : decode cX8_reach 9 = .ok (.istore_n 2, 1) := by decide +kernel
theorem dX8_reach_10 : decode cX8_reach 10 = .ok (.aload_n 0, 1) := by decide +kernel
theorem dX8_reach_11 : decode cX8_reach 11 = .ok (.iconst 2, 1) := by decide +kernel
theorem dX8_reach_12 : decode cX8_reach 12 = .ok (.iconst 4, 1) := by decide +kernel
theorem dX8_reach_13 : decode cX8_reach 13 = .ok (.iload_n 1, 1) := by decide +kernel
theorem dX8_reach_14 : decode cX8_reach 14 = .ok (.imul, 1) := by decide +kernel
theorem dX8_reach_15 : decode cX8_reach 15 = .ok (.iadd, 1) := by decide +kernel
theorem dX8_reach_16 : decode cX8_reach 16 = .ok (.iaload, 1) := by decide +kernel
theorem dX8_reach_17 : decode cX8_reach 17 = .ok (.tableswitch 45 2 5 #[31, 45, 43, 43], 31) := by decide +kernel
theorem dX8_reach_48 : decode cX8_reach 48 = .ok (.iload_n 2, 1) := by decide +kernel
theorem dX8_reach_49 : decode cX8_reach 49 = .ok (.ifCond .le 9, 3) := by decide +kernel
theorem dX8_reach_52 : decode cX8_reach 52 = .ok (.iload_n 2, 1) := by decide +kernel
theorem dX8_reach_53 : decode cX8_reach 53 = .ok (.iconst 1, 1) := by decide +kernel
theorem dX8_reach_54 : decode cX8_reach 54 = .ok (.isub, 1) := by decide +kernel
theorem dX8_reach_55 : decode cX8_reach 55 = .ok (.goto 4, 3) := by decide +kernel
theorem dX8_reach_58 : decode cX8_reach 58 = .ok (.iconst 0, 1) := by decide +kernel
theorem dX8_reach_59 : decode cX8_reach 59 = .ok (.ireturn, 1) := by decide +kernel
theorem dX8_reach_60 : decode cX8_reach 60 = .ok (.iconst 0, 1) := by decide +kernel
theorem dX8_reach_61 : decode cX8_reach 61 = .ok (.ireturn, 1) := by decide +kernel
theorem dX8_reach_62 : decode cX8_reach 62 = .ok (.iload_n 2, 1) := by decide +kernel
theorem dX8_reach_63 : decode cX8_reach 63 = .ok (.ireturn, 1) := by decide +kernel
def rmX8_reach : Room := { frames := 0, cells := 0, slots := 0, locals := 0 }
def wX8_reach (M : zM) (o0 : Nat) (n0 : Nat) (x1 : Int32) (Q : Int32 → Prop) : Prop :=
    ∀ x4 : Int32, x4 = (((2 : Int32) + ((4 : Int32) * x1)) + (2 : Int32)) →
    vp_in x4 n0 ∧
    vp_in ((2 : Int32) + ((4 : Int32) * x1)) n0 ∧
    ∀ x5 : Int32, x5 = (M o0 ((2 : Int32) + ((4 : Int32) * x1)).toNatClampNeg) →
    ((x5.toInt < 2 ∨ 5 < x5.toInt) → (
    Q (M o0 x4.toNatClampNeg))) ∧
    ((x5.toInt = 2) → (
    (((M o0 x4.toNatClampNeg) ≤ 0) → (
    Q (0 : Int32))) ∧
    ((¬ (M o0 x4.toNatClampNeg) ≤ 0) → (
    Q ((M o0 x4.toNatClampNeg) - (1 : Int32)))))) ∧
    ((x5.toInt = 3) → (
    Q (M o0 x4.toNatClampNeg))) ∧
    ((x5.toInt = 4) → (
    Q (0 : Int32))) ∧
    ((x5.toInt = 5) → (
    Q (0 : Int32)))
set_option maxHeartbeats 4000000 in
set_option maxRecDepth 100000 in
theorem kX8_reach {l : Launch} {D : va_G} {Y : zY} {ad kd : Nat → Nat} {RL : List Nat} {M : zM} {J : zL} {o0 n0 : Nat} {x1 : Int32} (h_o0 : kd o0 = 1000 + n0) {Q : Int32 → Prop} (hq : wX8_reach M o0 n0 x1 Q) : zCi l yX8_reach wsX8_reach rmX8_reach [.ref (ad o0), .int x1] D Y ad kd RL M J (fun r M' J' => Q r ∧ M = M' ∧ J = J') := by
  refine z_meti (cc := cX8_reach) (maxL := 3) (ret := (some .int)) (by decide) rfl (Nat.le_of_ble_eq_true rfl) ?_
  intro p e s m below meth c ls A ar QE hQE hx hb hr hml hown hts hlk hw hl
  have hown : s.vm.findClass RX8 = some m.cls := hown
  have hl : lv_has ls 3 [(0, .ref (ad o0)), (1, .int x1)] := hl
  have hC := hw.2.2.2.2.2.1
  unfold wX8_reach at hq
  refine lv_aload_n hx hb dX8_reach_0 rfl (lv_at hl 0 rfl) ?_
  refine lv_iconst (v := (2 : Int32)) hx hb dX8_reach_1 (by decide) ?_
  refine lv_iconst (v := (4 : Int32)) hx hb dX8_reach_2 (by decide) ?_
  refine lv_iload_n hx hb dX8_reach_3 rfl (lv_at hl 1 rfl) ?_
  refine lv_imul hx hb dX8_reach_4 ?_
  refine lv_iadd hx hb dX8_reach_5 ?_
  refine lv_iconst (v := (2 : Int32)) hx hb dX8_reach_6 (by decide) ?_
  refine lv_iadd hx hb dX8_reach_7 ?_
  refine lv_topi (fun x4 e_x4 => ?_)
  have hq := hq x4 e_x4
  obtain ⟨hi, hq⟩ := hq
  refine z_iald (n := n0) hx hb hw h_o0 hi dX8_reach_8 ?_
  refine lv_istore_n (lv' := [(2, .int (M o0 x4.toNatClampNeg)), (0, .ref (ad o0)), (1, .int x1)]) hx hb dX8_reach_9 rfl hl (by decide) rfl (fun ls hl => ?_)
  refine lv_aload_n hx hb dX8_reach_10 rfl (lv_at hl 1 rfl) ?_
  refine lv_iconst (v := (2 : Int32)) hx hb dX8_reach_11 (by decide) ?_
  refine lv_iconst (v := (4 : Int32)) hx hb dX8_reach_12 (by decide) ?_
  refine lv_iload_n hx hb dX8_reach_13 rfl (lv_at hl 2 rfl) ?_
  refine lv_imul hx hb dX8_reach_14 ?_
  refine lv_iadd hx hb dX8_reach_15 ?_
  obtain ⟨hi, hq⟩ := hq
  refine z_iald (n := n0) hx hb hw h_o0 hi dX8_reach_16 ?_
  refine lv_topi (fun x5 e_x5 => ?_)
  have hq := hq x5 e_x5
  by_cases hsw : x5.toInt < 2 ∨ 5 < x5.toInt
  · refine lv_tableOut (tgt := 62) hx hb dX8_reach_17 hsw (by decide) ?_
    have hq := hq.1 hsw
    refine lv_iload_n hx hb dX8_reach_62 rfl (lv_at hl 0 rfl) ?_
    exact z_iret hQE hx hb hr hlk hw dX8_reach_63 ⟨hq, rfl, rfl⟩
  · have hq := hq.2
    rcases (show x5.toInt = 2 ∨ x5.toInt = 3 ∨ x5.toInt = 4 ∨ x5.toInt = 5 by omega) with hs | hs | hs | hs
    · refine lv_tableIn (off := 31) (tgt := 48) hx hb dX8_reach_17 (by omega) (by omega) (by rw [hs]; rfl) (by decide) ?_
      have hq := hq.1 hs
      refine lv_iload_n hx hb dX8_reach_48 rfl (lv_at hl 0 rfl) ?_
      refine lv_if_le (tgt := 58) hx hb dX8_reach_49 (by decide) (fun hc => ?_) (fun hc => ?_)
      · have hq := hq.1 hc
        refine lv_iconst (v := (0 : Int32)) hx hb dX8_reach_58 (by decide) ?_
        exact z_iret hQE hx hb hr hlk hw dX8_reach_59 ⟨hq, rfl, rfl⟩
      · have hq := hq.2 hc
        refine lv_iload_n hx hb dX8_reach_52 rfl (lv_at hl 0 rfl) ?_
        refine lv_iconst (v := (1 : Int32)) hx hb dX8_reach_53 (by decide) ?_
        refine lv_isub hx hb dX8_reach_54 ?_
        refine lv_goto (tgt := 59) hx hb dX8_reach_55 (by decide) ?_
        exact z_iret hQE hx hb hr hlk hw dX8_reach_59 ⟨hq, rfl, rfl⟩
    · refine lv_tableIn (off := 45) (tgt := 62) hx hb dX8_reach_17 (by omega) (by omega) (by rw [hs]; rfl) (by decide) ?_
      have hq := hq.2.1 hs
      refine lv_iload_n hx hb dX8_reach_62 rfl (lv_at hl 0 rfl) ?_
      exact z_iret hQE hx hb hr hlk hw dX8_reach_63 ⟨hq, rfl, rfl⟩
    · refine lv_tableIn (off := 43) (tgt := 60) hx hb dX8_reach_17 (by omega) (by omega) (by rw [hs]; rfl) (by decide) ?_
      have hq := hq.2.2.1 hs
      refine lv_iconst (v := (0 : Int32)) hx hb dX8_reach_60 (by decide) ?_
      exact z_iret hQE hx hb hr hlk hw dX8_reach_61 ⟨hq, rfl, rfl⟩
    · refine lv_tableIn (off := 43) (tgt := 60) hx hb dX8_reach_17 (by omega) (by omega) (by rw [hs]; rfl) (by decide) ?_
      have hq := hq.2.2.2 hs
      refine lv_iconst (v := (0 : Int32)) hx hb dX8_reach_60 (by decide) ?_
      exact z_iret hQE hx hb hr hlk hw dX8_reach_61 ⟨hq, rfl, rfl⟩
set_option maxRecDepth 20000 in
theorem ggX8_slewOf_X8_in : GoodIn wsX8_slewOf wsX8_in := goodIn_r _ [4] (by decide +kernel) (by decide +kernel)
set_option maxRecDepth 20000 in
theorem gX8_slewOf_X8_in : GoodIn wsX8_slewOf (va_wsS RX8 59 yX8_in wsX8_in) := goodIn_app (goodIn_of _ (by decide +kernel)) ggX8_slewOf_X8_in
theorem dX8_slewOf_0 : decode cX8_slewOf 0 = .ok (.iload_n 1, 1) := by decide +kernel
theorem dX8_slewOf_1 : decode cX8_slewOf 1 = .ok (.iconst 0, 1) := by decide +kernel
theorem dX8_slewOf_2 : decode cX8_slewOf 2 = .ok (.aload_n 0, 1) := by decide +kernel
theorem dX8_slewOf_3 : decode cX8_slewOf 3 = .ok (.iconst 0, 1) := by decide +kernel
theorem dX8_slewOf_4 : decode cX8_slewOf 4 = .ok (.iaload, 1) := by decide +kernel
theorem dX8_slewOf_5 : decode cX8_slewOf 5 = .ok (.iconst 1, 1) := by decide +kernel
theorem dX8_slewOf_6 : decode cX8_slewOf 6 = .ok (.isub, 1) := by decide +kernel
theorem dX8_slewOf_7 : decode cX8_slewOf 7 = .ok (.invokestatic 59, 3) := by decide +kernel
theorem dX8_slewOf_10 : decode cX8_slewOf 10 = .ok (.ifCond .eq 15, 3) := by decide +kernel
theorem dX8_slewOf_13 : decode cX8_slewOf 13 = .ok (.aload_n 0, 1) := by decide +kernel
theorem dX8_slewOf_14 : decode cX8_slewOf 14 = .ok (.iconst 2, 1) := by decide +kernel
theorem dX8_slewOf_15 : decode cX8_slewOf 15 = .ok (.iconst 4, 1) := by decide +kernel
theorem dX8_slewOf_16 : decode cX8_slewOf 16 = .ok (.iload_n 1, 1) := by decide +kernel
theorem dX8_slewOf_17 : decode cX8_slewOf 17 = .ok (.imul, 1) := by decide +kernel
theorem dX8_slewOf_18 : decode cX8_slewOf 18 = .ok (.iadd, 1) := by decide +kernel
theorem dX8_slewOf_19 : decode cX8_slewOf 19 = .ok (.iconst 3, 1) := by decide +kernel
theorem dX8_slewOf_20 : decode cX8_slewOf 20 = .ok (.iadd, 1) := by decide +kernel
theorem dX8_slewOf_21 : decode cX8_slewOf 21 = .ok (.iaload, 1) := by decide +kernel
theorem dX8_slewOf_22 : decode cX8_slewOf 22 = .ok (.goto 4, 3) := by decide +kernel
theorem dX8_slewOf_25 : decode cX8_slewOf 25 = .ok (.iconst 0, 1) := by decide +kernel
theorem dX8_slewOf_26 : decode cX8_slewOf 26 = .ok (.ireturn, 1) := by decide +kernel
def rmX8_slewOf : Room := { frames := 1, cells := 0, slots := 0, locals := 22 }
def wX8_slewOf (M : zM) (o0 : Nat) (n0 : Nat) (x1 : Int32) (Q : Int32 → Prop) : Prop :=
    vp_in (0 : Int32) n0 ∧
    ∀ x4 : Int32, x4 = ((M o0 (0 : Int32).toNatClampNeg) - (1 : Int32)) →
    wX8_in M x1 (0 : Int32) x4 (fun r5 =>
    ((r5 = 0) → (
    Q (0 : Int32))) ∧
    ((¬ r5 = 0) → (
    ∀ x6 : Int32, x6 = (((2 : Int32) + ((4 : Int32) * x1)) + (3 : Int32)) →
    vp_in x6 n0 ∧
    Q (M o0 x6.toNatClampNeg))))
set_option maxHeartbeats 4000000 in
set_option maxRecDepth 100000 in
theorem kX8_slewOf {l : Launch} {D : va_G} {Y : zY} {ad kd : Nat → Nat} {RL : List Nat} {M : zM} {J : zL} {o0 n0 : Nat} {x1 : Int32} (h_o0 : kd o0 = 1000 + n0) {Q : Int32 → Prop} (hq : wX8_slewOf M o0 n0 x1 Q) : zCi l yX8_slewOf wsX8_slewOf rmX8_slewOf [.ref (ad o0), .int x1] D Y ad kd RL M J (fun r M' J' => Q r ∧ M = M' ∧ J = J') := by
  refine z_meti (cc := cX8_slewOf) (maxL := 2) (ret := (some .int)) (by decide) rfl (Nat.le_of_ble_eq_true rfl) ?_
  intro p e s m below meth c ls A ar QE hQE hx hb hr hml hown hts hlk hw hl
  have hown : s.vm.findClass RX8 = some m.cls := hown
  have hl : lv_has ls 2 [(0, .ref (ad o0)), (1, .int x1)] := hl
  have hC := hw.2.2.2.2.2.1
  unfold wX8_slewOf at hq
  refine lv_iload_n hx hb dX8_slewOf_0 rfl (lv_at hl 1 rfl) ?_
  refine lv_iconst (v := (0 : Int32)) hx hb dX8_slewOf_1 (by decide) ?_
  refine lv_aload_n hx hb dX8_slewOf_2 rfl (lv_at hl 0 rfl) ?_
  refine lv_iconst (v := (0 : Int32)) hx hb dX8_slewOf_3 (by decide) ?_
  obtain ⟨hi, hq⟩ := hq
  refine z_iald (n := n0) hx hb hw h_o0 hi dX8_slewOf_4 ?_
  refine lv_iconst (v := (1 : Int32)) hx hb dX8_slewOf_5 (by decide) ?_
  refine lv_isub hx hb dX8_slewOf_6 ?_
  refine lv_topi (fun x4 e_x4 => ?_)
  have hq := hq x4 e_x4
  refine z_csi ⟨hx, hb, hml, hown, hts⟩ hw (kX8_in  hq) (va_cwS 3 hts gX8_slewOf_X8_in rfl rfl rfl (by decide +kernel) ⟨Nat.le_of_ble_eq_true rfl, Nat.le_of_ble_eq_true rfl⟩) rfl hl.1 rfl (Nat.le_of_ble_eq_true rfl) dX8_slewOf_7 ⟨Nat.zero_le _, Nat.zero_le _⟩ (fun r5 M0 J0 H locs hq hw => ?_)
  obtain ⟨hq, rfl, rfl⟩ := hq
  refine lv_if_eq (tgt := 25) hx hb dX8_slewOf_10 (by decide) (fun hc => ?_) (fun hc => ?_)
  · have hq := hq.1 hc
    refine lv_iconst (v := (0 : Int32)) hx hb dX8_slewOf_25 (by decide) ?_
    exact z_iret hQE hx hb hr hlk hw dX8_slewOf_26 ⟨hq, rfl, rfl⟩
  · have hq := hq.2 hc
    refine lv_aload_n hx hb dX8_slewOf_13 rfl (lv_at hl 0 rfl) ?_
    refine lv_iconst (v := (2 : Int32)) hx hb dX8_slewOf_14 (by decide) ?_
    refine lv_iconst (v := (4 : Int32)) hx hb dX8_slewOf_15 (by decide) ?_
    refine lv_iload_n hx hb dX8_slewOf_16 rfl (lv_at hl 1 rfl) ?_
    refine lv_imul hx hb dX8_slewOf_17 ?_
    refine lv_iadd hx hb dX8_slewOf_18 ?_
    refine lv_iconst (v := (3 : Int32)) hx hb dX8_slewOf_19 (by decide) ?_
    refine lv_iadd hx hb dX8_slewOf_20 ?_
    refine lv_topi (fun x6 e_x6 => ?_)
    have hq := hq x6 e_x6
    obtain ⟨hi, hq⟩ := hq
    refine z_iald (n := n0) hx hb hw h_o0 hi dX8_slewOf_21 ?_
    refine lv_goto (tgt := 26) hx hb dX8_slewOf_22 (by decide) ?_
    exact z_iret hQE hx hb hr hlk hw dX8_slewOf_26 ⟨hq, rfl, rfl⟩
set_option maxRecDepth 20000 in
theorem ggX8_nowOf_X8_slewOf : GoodIn wsX8_nowOf wsX8_slewOf := goodIn_r _ [4, 5, 6, 3, 7] (by decide +kernel) (by decide +kernel)
set_option maxRecDepth 20000 in
theorem gX8_nowOf_X8_slewOf : GoodIn wsX8_nowOf (va_wsS RX8 142 yX8_slewOf wsX8_slewOf) := goodIn_app (goodIn_of _ (by decide +kernel)) ggX8_nowOf_X8_slewOf
theorem dX8_nowOf_0 : decode cX8_nowOf 0 = .ok (.aload_n 0, 1) := by decide +kernel
theorem dX8_nowOf_1 : decode cX8_nowOf 1 = .ok (.iconst 2, 1) := by decide +kernel
theorem dX8_nowOf_2 : decode cX8_nowOf 2 = .ok (.iconst 4, 1) := by decide +kernel
theorem dX8_nowOf_3 : decode cX8_nowOf 3 = .ok (.iload_n 1, 1) := by decide +kernel
theorem dX8_nowOf_4 : decode cX8_nowOf 4 = .ok (.imul, 1) := by decide +kernel
theorem dX8_nowOf_5 : decode cX8_nowOf 5 = .ok (.iadd, 1) := by decide +kernel
theorem dX8_nowOf_6 : decode cX8_nowOf 6 = .ok (.iconst 1, 1) := by decide +kernel
theorem dX8_nowOf_7 : decode cX8_nowOf 7 = .ok (.iadd, 1) := by decide +kernel
theorem dX8_nowOf_8 : decode cX8_nowOf 8 = .ok (.iaload, 1) := by decide +kernel
theorem dX8_nowOf_9 : decode cX8_nowOf 9 = .ok (.iconst 2, 1) := by decide +kernel
theorem dX8_nowOf_10 : decode cX8_nowOf 10 = .ok (.aload_n 0, 1) := by decide +kernel
theorem dX8_nowOf_11 : decode cX8_nowOf 11 = .ok (.iload_n 1, 1) := by decide +kernel
theorem dX8_nowOf_12 : decode cX8_nowOf 12 = .ok (.invokestatic 142, 3) := by decide +kernel
theorem dX8_nowOf_15 : decode cX8_nowOf 15 = .ok (.imul, 1) := by decide +kernel
theorem dX8_nowOf_16 : decode cX8_nowOf 16 = .ok (.iadd, 1) := by decide +kernel
theorem dX8_nowOf_17 : decode cX8_nowOf 17 = .ok (.aload_n 0, 1) := by decide +kernel
theorem dX8_nowOf_18 : decode cX8_nowOf 18 = .ok (.iload_n 1, 1) := by decide +kernel
theorem dX8_nowOf_19 : decode cX8_nowOf 19 = .ok (.iconst 1, 1) := by decide +kernel
theorem dX8_nowOf_20 : decode cX8_nowOf 20 = .ok (.isub, 1) := by decide +kernel
theorem dX8_nowOf_21 : decode cX8_nowOf 21 = .ok (.invokestatic 142, 3) := by decide +kernel
theorem dX8_nowOf_24 : decode cX8_nowOf 24 = .ok (.isub, 1) := by decide +kernel
theorem dX8_nowOf_25 : decode cX8_nowOf 25 = .ok (.aload_n 0, 1) := by decide +kernel
theorem dX8_nowOf_26 : decode cX8_nowOf 26 = .ok (.iload_n 1, 1) := by decide +kernel
theorem dX8_nowOf_27 : decode cX8_nowOf 27 = .ok (.iconst 1, 1) := by decide +kernel
theorem dX8_nowOf_28 : decode cX8_nowOf 28 = .ok (.iadd, 1) := by decide +kernel
theorem dX8_nowOf_29 : decode cX8_nowOf 29 = .ok (.invokestatic 142, 3) := by decide +kernel
theorem dX8_nowOf_32 : decode cX8_nowOf 32 = .ok (.isub, 1) := by decide +kernel
theorem dX8_nowOf_33 : decode cX8_nowOf 33 = .ok (.ireturn, 1) := by decide +kernel
def rmX8_nowOf : Room := { frames := 2, cells := 0, slots := 0, locals := 43 }
def wX8_nowOf (M : zM) (o0 : Nat) (n0 : Nat) (x1 : Int32) (Q : Int32 → Prop) : Prop :=
    ∀ x4 : Int32, x4 = (((2 : Int32) + ((4 : Int32) * x1)) + (1 : Int32)) →
    vp_in x4 n0 ∧
    wX8_slewOf M o0 n0 x1 (fun r5 =>
    wX8_slewOf M o0 n0 (x1 - (1 : Int32)) (fun r6 =>
    ∀ x7 : Int32, x7 = (((M o0 x4.toNatClampNeg) + ((2 : Int32) * r5)) - r6) →
    wX8_slewOf M o0 n0 (x1 + (1 : Int32)) (fun r8 =>
    Q (x7 - r8))))
set_option maxHeartbeats 4000000 in
set_option maxRecDepth 100000 in
theorem kX8_nowOf {l : Launch} {D : va_G} {Y : zY} {ad kd : Nat → Nat} {RL : List Nat} {M : zM} {J : zL} {o0 n0 : Nat} {x1 : Int32} (h_o0 : kd o0 = 1000 + n0) {Q : Int32 → Prop} (hq : wX8_nowOf M o0 n0 x1 Q) : zCi l yX8_nowOf wsX8_nowOf rmX8_nowOf [.ref (ad o0), .int x1] D Y ad kd RL M J (fun r M' J' => Q r ∧ M = M' ∧ J = J') := by
  refine z_meti (cc := cX8_nowOf) (maxL := 2) (ret := (some .int)) (by decide) rfl (Nat.le_of_ble_eq_true rfl) ?_
  intro p e s m below meth c ls A ar QE hQE hx hb hr hml hown hts hlk hw hl
  have hown : s.vm.findClass RX8 = some m.cls := hown
  have hl : lv_has ls 2 [(0, .ref (ad o0)), (1, .int x1)] := hl
  have hC := hw.2.2.2.2.2.1
  unfold wX8_nowOf at hq
  refine lv_aload_n hx hb dX8_nowOf_0 rfl (lv_at hl 0 rfl) ?_
  refine lv_iconst (v := (2 : Int32)) hx hb dX8_nowOf_1 (by decide) ?_
  refine lv_iconst (v := (4 : Int32)) hx hb dX8_nowOf_2 (by decide) ?_
  refine lv_iload_n hx hb dX8_nowOf_3 rfl (lv_at hl 1 rfl) ?_
  refine lv_imul hx hb dX8_nowOf_4 ?_
  refine lv_iadd hx hb dX8_nowOf_5 ?_
  refine lv_iconst (v := (1 : Int32)) hx hb dX8_nowOf_6 (by decide) ?_
  refine lv_iadd hx hb dX8_nowOf_7 ?_
  refine lv_topi (fun x4 e_x4 => ?_)
  have hq := hq x4 e_x4
  obtain ⟨hi, hq⟩ := hq
  refine z_iald (n := n0) hx hb hw h_o0 hi dX8_nowOf_8 ?_
  refine lv_iconst (v := (2 : Int32)) hx hb dX8_nowOf_9 (by decide) ?_
  refine lv_aload_n hx hb dX8_nowOf_10 rfl (lv_at hl 0 rfl) ?_
  refine lv_iload_n hx hb dX8_nowOf_11 rfl (lv_at hl 1 rfl) ?_
  refine z_csi ⟨hx, hb, hml, hown, hts⟩ hw (kX8_slewOf h_o0 hq) (va_cwS 2 hts gX8_nowOf_X8_slewOf rfl rfl rfl (by decide +kernel) ⟨Nat.le_of_ble_eq_true rfl, Nat.le_of_ble_eq_true rfl⟩) rfl hl.1 rfl (Nat.le_of_ble_eq_true rfl) dX8_nowOf_12 ⟨Nat.zero_le _, Nat.zero_le _⟩ (fun r5 M0 J0 H locs hq hw => ?_)
  obtain ⟨hq, rfl, rfl⟩ := hq
  refine lv_imul hx hb dX8_nowOf_15 ?_
  refine lv_iadd hx hb dX8_nowOf_16 ?_
  refine lv_aload_n hx hb dX8_nowOf_17 rfl (lv_at hl 0 rfl) ?_
  refine lv_iload_n hx hb dX8_nowOf_18 rfl (lv_at hl 1 rfl) ?_
  refine lv_iconst (v := (1 : Int32)) hx hb dX8_nowOf_19 (by decide) ?_
  refine lv_isub hx hb dX8_nowOf_20 ?_
  refine z_csi ⟨hx, hb, hml, hown, hts⟩ hw (kX8_slewOf h_o0 hq) (va_cwS 2 hts gX8_nowOf_X8_slewOf rfl rfl rfl (by decide +kernel) ⟨Nat.le_of_ble_eq_true rfl, Nat.le_of_ble_eq_true rfl⟩) rfl hl.1 rfl (Nat.le_of_ble_eq_true rfl) dX8_nowOf_21 ⟨Nat.zero_le _, Nat.zero_le _⟩ (fun r6 M0 J0 H locs hq hw => ?_)
  obtain ⟨hq, rfl, rfl⟩ := hq
  refine lv_isub hx hb dX8_nowOf_24 ?_
  refine lv_topi (fun x7 e_x7 => ?_)
  have hq := hq x7 e_x7
  refine lv_aload_n hx hb dX8_nowOf_25 rfl (lv_at hl 0 rfl) ?_
  refine lv_iload_n hx hb dX8_nowOf_26 rfl (lv_at hl 1 rfl) ?_
  refine lv_iconst (v := (1 : Int32)) hx hb dX8_nowOf_27 (by decide) ?_
  refine lv_iadd hx hb dX8_nowOf_28 ?_
  refine z_csi ⟨hx, hb, hml, hown, hts⟩ hw (kX8_slewOf h_o0 hq) (va_cwS 2 hts gX8_nowOf_X8_slewOf rfl rfl rfl (by decide +kernel) ⟨Nat.le_of_ble_eq_true rfl, Nat.le_of_ble_eq_true rfl⟩) rfl hl.1 rfl (Nat.le_of_ble_eq_true rfl) dX8_nowOf_29 ⟨Nat.zero_le _, Nat.zero_le _⟩ (fun r8 M0 J0 H locs hq hw => ?_)
  obtain ⟨hq, rfl, rfl⟩ := hq
  refine lv_isub hx hb dX8_nowOf_32 ?_
  exact z_iret hQE hx hb hr hlk hw dX8_nowOf_33 ⟨hq, rfl, rfl⟩
theorem dX8_isLoose_0 : decode cX8_isLoose 0 = .ok (.aload_n 0, 1) := by decide +kernel
theorem dX8_isLoose_1 : decode cX8_isLoose 1 = .ok (.iconst 2, 1) := by decide +kernel
theorem dX8_isLoose_2 : decode cX8_isLoose 2 = .ok (.iconst 4, 1) := by decide +kernel
theorem dX8_isLoose_3 : decode cX8_isLoose 3 = .ok (.iload_n 1, 1) := by decide +kernel
theorem dX8_isLoose_4 : decode cX8_isLoose 4 = .ok (.imul, 1) := by decide +kernel
theorem dX8_isLoose_5 : decode cX8_isLoose 5 = .ok (.iadd, 1) := by decide +kernel
theorem dX8_isLoose_6 : decode cX8_isLoose 6 = .ok (.iaload, 1) := by decide +kernel
theorem dX8_isLoose_7 : decode cX8_isLoose 7 = .ok (.iconst 3, 1) := by decide +kernel
theorem dX8_isLoose_8 : decode cX8_isLoose 8 = .ok (.if_icmp .eq 16, 3) := by decide +kernel
theorem dX8_isLoose_11 : decode cX8_isLoose 11 = .ok (.aload_n 0, 1) := by decide +kernel
theorem dX8_isLoose_12 : decode cX8_isLoose 12 = .ok (.iconst 2, 1) := by decide +kernel
theorem dX8_isLoose_13 : decode cX8_isLoose 13 = .ok (.iconst 4, 1) := by decide +kernel
theorem dX8_isLoose_14 : decode cX8_isLoose 14 = .ok (.iload_n 1, 1) := by decide +kernel
theorem dX8_isLoose_15 : decode cX8_isLoose 15 = .ok (.imul, 1) := by decide +kernel
theorem dX8_isLoose_16 : decode cX8_isLoose 16 = .ok (.iadd, 1) := by decide +kernel
theorem dX8_isLoose_17 : decode cX8_isLoose 17 = .ok (.iconst 4, 1) := by decide +kernel
theorem dX8_isLoose_18 : decode cX8_isLoose 18 = .ok (.iadd, 1) := by decide +kernel
theorem dX8_isLoose_19 : decode cX8_isLoose 19 = .ok (.iaload, 1) := by decide +kernel
theorem dX8_isLoose_20 : decode cX8_isLoose 20 = .ok (.iconst 3, 1) := by decide +kernel
theorem dX8_isLoose_21 : decode cX8_isLoose 21 = .ok (.if_icmp .ne 7, 3) := by decide +kernel
theorem dX8_isLoose_24 : decode cX8_isLoose 24 = .ok (.iconst 1, 1) := by decide +kernel
theorem dX8_isLoose_25 : decode cX8_isLoose 25 = .ok (.goto 4, 3) := by decide +kernel
theorem dX8_isLoose_28 : decode cX8_isLoose 28 = .ok (.iconst 0, 1) := by decide +kernel
theorem dX8_isLoose_29 : decode cX8_isLoose 29 = .ok (.ireturn, 1) := by decide +kernel
def rmX8_isLoose : Room := { frames := 0, cells := 0, slots := 0, locals := 0 }
def wX8_isLoose (M : zM) (o0 : Nat) (n0 : Nat) (x1 : Int32) (Q : Int32 → Prop) : Prop :=
    vp_in ((2 : Int32) + ((4 : Int32) * x1)) n0 ∧
    ∀ x4 : Int32, x4 = (M o0 ((2 : Int32) + ((4 : Int32) * x1)).toNatClampNeg) →
    ((x4 = (3 : Int32)) → (
    Q (1 : Int32))) ∧
    ((¬ x4 = (3 : Int32)) → (
    ∀ x5 : Int32, x5 = (((2 : Int32) + ((4 : Int32) * x1)) + (4 : Int32)) →
    vp_in x5 n0 ∧
    ((¬ (M o0 x5.toNatClampNeg) = (3 : Int32)) → (
    Q (0 : Int32))) ∧
    (((M o0 x5.toNatClampNeg) = (3 : Int32)) → (
    Q (1 : Int32)))))
set_option maxHeartbeats 4000000 in
set_option maxRecDepth 100000 in
theorem kX8_isLoose {l : Launch} {D : va_G} {Y : zY} {ad kd : Nat → Nat} {RL : List Nat} {M : zM} {J : zL} {o0 n0 : Nat} {x1 : Int32} (h_o0 : kd o0 = 1000 + n0) {Q : Int32 → Prop} (hq : wX8_isLoose M o0 n0 x1 Q) : zCi l yX8_isLoose wsX8_isLoose rmX8_isLoose [.ref (ad o0), .int x1] D Y ad kd RL M J (fun r M' J' => Q r ∧ M = M' ∧ J = J') := by
  refine z_meti (cc := cX8_isLoose) (maxL := 2) (ret := (some .boolean)) (by decide) rfl (Nat.le_of_ble_eq_true rfl) ?_
  intro p e s m below meth c ls A ar QE hQE hx hb hr hml hown hts hlk hw hl
  have hown : s.vm.findClass RX8 = some m.cls := hown
  have hl : lv_has ls 2 [(0, .ref (ad o0)), (1, .int x1)] := hl
  have hC := hw.2.2.2.2.2.1
  unfold wX8_isLoose at hq
  refine lv_aload_n hx hb dX8_isLoose_0 rfl (lv_at hl 0 rfl) ?_
  refine lv_iconst (v := (2 : Int32)) hx hb dX8_isLoose_1 (by decide) ?_
  refine lv_iconst (v := (4 : Int32)) hx hb dX8_isLoose_2 (by decide) ?_
  refine lv_iload_n hx hb dX8_isLoose_3 rfl (lv_at hl 1 rfl) ?_
  refine lv_imul hx hb dX8_isLoose_4 ?_
  refine lv_iadd hx hb dX8_isLoose_5 ?_
  obtain ⟨hi, hq⟩ := hq
  refine z_iald (n := n0) hx hb hw h_o0 hi dX8_isLoose_6 ?_
  refine lv_topi (fun x4 e_x4 => ?_)
  have hq := hq x4 e_x4
  refine lv_iconst (v := (3 : Int32)) hx hb dX8_isLoose_7 (by decide) ?_
  refine lv_icmp_eq (tgt := 24) hx hb dX8_isLoose_8 (by decide) (fun hc => ?_) (fun hc => ?_)
  · have hq := hq.1 hc
    refine lv_iconst (v := (1 : Int32)) hx hb dX8_isLoose_24 (by decide) ?_
    refine lv_goto (tgt := 29) hx hb dX8_isLoose_25 (by decide) ?_
    exact z_zret hQE hx hb hr hlk hw dX8_isLoose_29 (by decide) ⟨hq, rfl, rfl⟩
  · have hq := hq.2 hc
    refine lv_aload_n hx hb dX8_isLoose_11 rfl (lv_at hl 0 rfl) ?_
    refine lv_iconst (v := (2 : Int32)) hx hb dX8_isLoose_12 (by decide) ?_
    refine lv_iconst (v := (4 : Int32)) hx hb dX8_isLoose_13 (by decide) ?_
    refine lv_iload_n hx hb dX8_isLoose_14 rfl (lv_at hl 1 rfl) ?_
    refine lv_imul hx hb dX8_isLoose_15 ?_
    refine lv_iadd hx hb dX8_isLoose_16 ?_
    refine lv_iconst (v := (4 : Int32)) hx hb dX8_isLoose_17 (by decide) ?_
    refine lv_iadd hx hb dX8_isLoose_18 ?_
    refine lv_topi (fun x5 e_x5 => ?_)
    have hq := hq x5 e_x5
    obtain ⟨hi, hq⟩ := hq
    refine z_iald (n := n0) hx hb hw h_o0 hi dX8_isLoose_19 ?_
    refine lv_iconst (v := (3 : Int32)) hx hb dX8_isLoose_20 (by decide) ?_
    refine lv_icmp_ne (tgt := 28) hx hb dX8_isLoose_21 (by decide) (fun hc => ?_) (fun hc => ?_)
    · have hq := hq.1 hc
      refine lv_iconst (v := (0 : Int32)) hx hb dX8_isLoose_28 (by decide) ?_
      exact z_zret hQE hx hb hr hlk hw dX8_isLoose_29 (by decide) ⟨hq, rfl, rfl⟩
    · have hq := hq.2 hc
      refine lv_iconst (v := (1 : Int32)) hx hb dX8_isLoose_24 (by decide) ?_
      refine lv_goto (tgt := 29) hx hb dX8_isLoose_25 (by decide) ?_
      exact z_zret hQE hx hb hr hlk hw dX8_isLoose_29 (by decide) ⟨hq, rfl, rfl⟩
set_option maxRecDepth 20000 in
theorem ggX8_step_X8_isLoose : GoodIn wsX8_step wsX8_isLoose := goodIn_r _ [4] (by decide +kernel) (by decide +kernel)
set_option maxRecDepth 20000 in
theorem gX8_step_X8_isLoose : GoodIn wsX8_step (va_wsS RX8 146 yX8_isLoose wsX8_isLoose) := goodIn_app (goodIn_of _ (by decide +kernel)) ggX8_step_X8_isLoose
set_option maxRecDepth 20000 in
theorem ggX8_step_X8_nowOf : GoodIn wsX8_step wsX8_nowOf := goodIn_r _ [7, 8, 9, 3, 10, 11, 12, 13] (by decide +kernel) (by decide +kernel)
set_option maxRecDepth 20000 in
theorem gX8_step_X8_nowOf : GoodIn wsX8_step (va_wsS RX8 150 yX8_nowOf wsX8_nowOf) := goodIn_app (goodIn_of _ (by decide +kernel)) ggX8_step_X8_nowOf
set_option maxRecDepth 20000 in
theorem ggX8_step_X8_size : GoodIn wsX8_step wsX8_size := goodIn_r _ [16] (by decide +kernel) (by decide +kernel)
set_option maxRecDepth 20000 in
theorem gX8_step_X8_size : GoodIn wsX8_step (va_wsS RX8 153 yX8_size wsX8_size) := goodIn_app (goodIn_of _ (by decide +kernel)) ggX8_step_X8_size
theorem dX8_step_0 : decode cX8_step 0 = .ok (.aload_n 0, 1) := by decide +kernel
theorem dX8_step_1 : decode cX8_step 1 = .ok (.iload_n 1, 1) := by decide +kernel
theorem dX8_step_2 : decode cX8_step 2 = .ok (.invokestatic 146, 3) := by decide +kernel
theorem dX8_step_5 : decode cX8_step 5 = .ok (.ifCond .eq 7, 3) := by decide +kernel
theorem dX8_step_8 : decode cX8_step 8 = .ok (.iconst 0, 1) := by decide +kernel
theorem dX8_step_9 : decode cX8_step 9 = .ok (.goto 19, 3) := by decide +kernel
theorem dX8_step_12 : decode cX8_step 12 = .ok (.aload_n 0, 1) := by decide +kernel
theorem dX8_step_13 : decode cX8_step 13 = .ok (.iload_n 1, 1) := by decide +kernel
theorem dX8_step_14 : decode cX8_step 14 = .ok (.invokestatic 150, 3) := by decide +kernel
theorem dX8_step_17 : decode cX8_step 17 = .ok (.aload_n 0, 1) := by decide +kernel
theorem dX8_step_18 : decode cX8_step 18 = .ok (.iload_n 1, 1) := by decide +kernel
theorem dX8_step_19 : decode cX8_step 19 = .ok (.iconst 1, 1) := by decide +kernel
theorem dX8_step_20 : decode cX8_step 20 = .ok (.iadd, 1) := by decide +kernel
theorem dX8_step_21 : decode cX8_step 21 = .ok (.invokestatic 150, 3) := by decide +kernel
theorem dX8_step_24 : decode cX8_step 24 = .ok (.isub, 1) := by decide +kernel
theorem dX8_step_25 : decode cX8_step 25 = .ok (.invokestatic 153, 3) := by decide +kernel
theorem dX8_step_28 : decode cX8_step 28 = .ok (.ireturn, 1) := by decide +kernel
def rmX8_step : Room := { frames := 3, cells := 0, slots := 0, locals := 64 }
def wX8_step (M : zM) (o0 : Nat) (n0 : Nat) (x1 : Int32) (Q : Int32 → Prop) : Prop :=
    wX8_isLoose M o0 n0 x1 (fun r4 =>
    ((r4 = 0) → (
    wX8_nowOf M o0 n0 x1 (fun r5 =>
    wX8_nowOf M o0 n0 (x1 + (1 : Int32)) (fun r6 =>
    wX8_size M (r5 - r6) (fun r7 =>
    Q r7))))) ∧
    ((¬ r4 = 0) → (
    Q (0 : Int32))))
set_option maxHeartbeats 4000000 in
set_option maxRecDepth 100000 in
theorem kX8_step {l : Launch} {D : va_G} {Y : zY} {ad kd : Nat → Nat} {RL : List Nat} {M : zM} {J : zL} {o0 n0 : Nat} {x1 : Int32} (h_o0 : kd o0 = 1000 + n0) {Q : Int32 → Prop} (hq : wX8_step M o0 n0 x1 Q) : zCi l yX8_step wsX8_step rmX8_step [.ref (ad o0), .int x1] D Y ad kd RL M J (fun r M' J' => Q r ∧ M = M' ∧ J = J') := by
  refine z_meti (cc := cX8_step) (maxL := 2) (ret := (some .int)) (by decide) rfl (Nat.le_of_ble_eq_true rfl) ?_
  intro p e s m below meth c ls A ar QE hQE hx hb hr hml hown hts hlk hw hl
  have hown : s.vm.findClass RX8 = some m.cls := hown
  have hl : lv_has ls 2 [(0, .ref (ad o0)), (1, .int x1)] := hl
  have hC := hw.2.2.2.2.2.1
  unfold wX8_step at hq
  refine lv_aload_n hx hb dX8_step_0 rfl (lv_at hl 0 rfl) ?_
  refine lv_iload_n hx hb dX8_step_1 rfl (lv_at hl 1 rfl) ?_
  refine z_csi ⟨hx, hb, hml, hown, hts⟩ hw (kX8_isLoose h_o0 hq) (va_cwS 2 hts gX8_step_X8_isLoose rfl rfl rfl (by decide +kernel) ⟨Nat.le_of_ble_eq_true rfl, Nat.le_of_ble_eq_true rfl⟩) rfl hl.1 rfl (Nat.le_of_ble_eq_true rfl) dX8_step_2 ⟨Nat.zero_le _, Nat.zero_le _⟩ (fun r4 M0 J0 H locs hq hw => ?_)
  obtain ⟨hq, rfl, rfl⟩ := hq
  refine lv_if_eq (tgt := 12) hx hb dX8_step_5 (by decide) (fun hc => ?_) (fun hc => ?_)
  · have hq := hq.1 hc
    refine lv_aload_n hx hb dX8_step_12 rfl (lv_at hl 0 rfl) ?_
    refine lv_iload_n hx hb dX8_step_13 rfl (lv_at hl 1 rfl) ?_
    refine z_csi ⟨hx, hb, hml, hown, hts⟩ hw (kX8_nowOf h_o0 hq) (va_cwS 2 hts gX8_step_X8_nowOf rfl rfl rfl (by decide +kernel) ⟨Nat.le_of_ble_eq_true rfl, Nat.le_of_ble_eq_true rfl⟩) rfl hl.1 rfl (Nat.le_of_ble_eq_true rfl) dX8_step_14 ⟨Nat.zero_le _, Nat.zero_le _⟩ (fun r5 M0 J0 H locs hq hw => ?_)
    obtain ⟨hq, rfl, rfl⟩ := hq
    refine lv_aload_n hx hb dX8_step_17 rfl (lv_at hl 0 rfl) ?_
    refine lv_iload_n hx hb dX8_step_18 rfl (lv_at hl 1 rfl) ?_
    refine lv_iconst (v := (1 : Int32)) hx hb dX8_step_19 (by decide) ?_
    refine lv_iadd hx hb dX8_step_20 ?_
    refine z_csi ⟨hx, hb, hml, hown, hts⟩ hw (kX8_nowOf h_o0 hq) (va_cwS 2 hts gX8_step_X8_nowOf rfl rfl rfl (by decide +kernel) ⟨Nat.le_of_ble_eq_true rfl, Nat.le_of_ble_eq_true rfl⟩) rfl hl.1 rfl (Nat.le_of_ble_eq_true rfl) dX8_step_21 ⟨Nat.zero_le _, Nat.zero_le _⟩ (fun r6 M0 J0 H locs hq hw => ?_)
    obtain ⟨hq, rfl, rfl⟩ := hq
    refine lv_isub hx hb dX8_step_24 ?_
    refine z_csi ⟨hx, hb, hml, hown, hts⟩ hw (kX8_size  hq) (va_cwS 1 hts gX8_step_X8_size rfl rfl rfl (by decide +kernel) ⟨Nat.le_of_ble_eq_true rfl, Nat.le_of_ble_eq_true rfl⟩) rfl hl.1 rfl (Nat.le_of_ble_eq_true rfl) dX8_step_25 ⟨Nat.zero_le _, Nat.zero_le _⟩ (fun r7 M0 J0 H locs hq hw => ?_)
    obtain ⟨hq, rfl, rfl⟩ := hq
    exact z_iret hQE hx hb hr hlk hw dX8_step_28 ⟨hq, rfl, rfl⟩
  · have hq := hq.2 hc
    refine lv_iconst (v := (0 : Int32)) hx hb dX8_step_8 (by decide) ?_
    refine lv_goto (tgt := 28) hx hb dX8_step_9 (by decide) ?_
    exact z_iret hQE hx hb hr hlk hw dX8_step_28 ⟨hq, rfl, rfl⟩
set_option maxRecDepth 20000 in
theorem ggX8_worst_X8_step : GoodIn wsX8_worst wsX8_step := goodIn_r _ [4, 5, 6, 3, 7, 8, 9, 10, 11, 12, 13, 14, 15, 16, 17, 18, 19] (by decide +kernel) (by decide +kernel)
set_option maxRecDepth 20000 in
theorem gX8_worst_X8_step : GoodIn wsX8_worst (va_wsS RX8 156 yX8_step wsX8_step) := goodIn_app (goodIn_of _ (by decide +kernel)) ggX8_worst_X8_step
theorem dX8_worst_0 : decode cX8_worst 0 = .ok (.iconst 0, 1) := by decide +kernel
theorem dX8_worst_1 : decode cX8_worst 1 = .ok (.istore_n 1, 1) := by decide +kernel
theorem dX8_worst_2 : decode cX8_worst 2 = .ok (.iconst 0, 1) := by decide +kernel
theorem dX8_worst_3 : decode cX8_worst 3 = .ok (.istore_n 2, 1) := by decide +kernel
theorem dX8_worst_4 : decode cX8_worst 4 = .ok (.iload_n 2, 1) := by decide +kernel
theorem dX8_worst_5 : decode cX8_worst 5 = .ok (.iconst 1, 1) := by decide +kernel
theorem dX8_worst_6 : decode cX8_worst 6 = .ok (.iadd, 1) := by decide +kernel
theorem dX8_worst_7 : decode cX8_worst 7 = .ok (.aload_n 0, 1) := by decide +kernel
theorem dX8_worst_8 : decode cX8_worst 8 = .ok (.iconst 0, 1) := by decide +kernel
theorem dX8_worst_9 : decode cX8_worst 9 = .ok (.iaload, 1) := by decide +kernel
theorem dX8_worst_10 : decode cX8_worst 10 = .ok (.if_icmp .ge 26, 3) := by decide +kernel
theorem dX8_worst_13 : decode cX8_worst 13 = .ok (.aload_n 0, 1) := by decide +kernel
theorem dX8_worst_14 : decode cX8_worst 14 = .ok (.iload_n 2, 1) := by decide +kernel
theorem dX8_worst_15 : decode cX8_worst 15 = .ok (.invokestatic 156, 3) := by decide +kernel
theorem dX8_worst_18 : decode cX8_worst 18 = .ok (.istore_n 3, 1) := by decide +kernel
theorem dX8_worst_19 : decode cX8_worst 19 = .ok (.iload_n 3, 1) := by decide +kernel
theorem dX8_worst_20 : decode cX8_worst 20 = .ok (.iload_n 1, 1) := by decide +kernel
theorem dX8_worst_21 : decode cX8_worst 21 = .ok (.if_icmp .le 7, 3) := by decide +kernel
theorem dX8_worst_24 : decode cX8_worst 24 = .ok (.iload_n 3, 1) := by decide +kernel
theorem dX8_worst_25 : decode cX8_worst 25 = .ok (.goto 4, 3) := by decide +kernel
theorem dX8_worst_28 : decode cX8_worst 28 = .ok (.iload_n 1, 1) := by decide +kernel
theorem dX8_worst_29 : decode cX8_worst 29 = .ok (.istore_n 1, 1) := by decide +kernel
theorem dX8_worst_30 : decode cX8_worst 30 = .ok (.iinc 2 1, 3) := by decide +kernel
theorem dX8_worst_33 : decode cX8_worst 33 = .ok (.goto (-29), 3) := by decide +kernel
theorem dX8_worst_36 : decode cX8_worst 36 = .ok (.iload_n 1, 1) := by decide +kernel
theorem dX8_worst_37 : decode cX8_worst 37 = .ok (.ireturn, 1) := by decide +kernel
def rmX8_worst : Room := { frames := 4, cells := 0, slots := 0, locals := 85 }
def lpX8_worst_4 (M : zM) (o0 : Nat) (n0 : Nat) (Q : Int32 → Prop) : Nat → Int32 → Int32 → Prop
  | 0, _, _ => False
  | fu4 + 1, x3, x4 =>
    vp_in (0 : Int32) n0 ∧
    (((M o0 (0 : Int32).toNatClampNeg) ≤ (x4 + (1 : Int32))) → (
    Q x3)) ∧
    ((¬ (M o0 (0 : Int32).toNatClampNeg) ≤ (x4 + (1 : Int32))) → (
    wX8_step M o0 n0 x4 (fun r5 =>
    ((r5 ≤ x3) → (
    ∀ x6 : Int32, x6 = x4 + (1 : Int32) →
    lpX8_worst_4 M o0 n0 Q fu4 x3 x6)) ∧
    ((¬ r5 ≤ x3) → (
    ∀ x7 : Int32, x7 = x4 + (1 : Int32) →
    lpX8_worst_4 M o0 n0 Q fu4 r5 x7)))))
def wX8_worst (M : zM) (o0 : Nat) (n0 : Nat) (Q : Int32 → Prop) : Prop :=
    ∃ fu4 : Nat, lpX8_worst_4 M o0 n0 Q fu4 (0 : Int32) (0 : Int32)
set_option maxHeartbeats 4000000 in
set_option maxRecDepth 100000 in
theorem kX8_worst {l : Launch} {D : va_G} {Y : zY} {ad kd : Nat → Nat} {RL : List Nat} {M : zM} {J : zL} {o0 n0 : Nat} (h_o0 : kd o0 = 1000 + n0) {Q : Int32 → Prop} (hq : wX8_worst M o0 n0 Q) : zCi l yX8_worst wsX8_worst rmX8_worst [.ref (ad o0)] D Y ad kd RL M J (fun r M' J' => Q r ∧ M = M' ∧ J = J') := by
  refine z_meti (cc := cX8_worst) (maxL := 4) (ret := (some .int)) (by decide) rfl (Nat.le_of_ble_eq_true rfl) ?_
  intro p e s m below meth c ls A ar QE hQE hx hb hr hml hown hts hlk hw hl
  have hown : s.vm.findClass RX8 = some m.cls := hown
  have hl : lv_has ls 4 [(0, .ref (ad o0))] := hl
  have hC := hw.2.2.2.2.2.1
  unfold wX8_worst at hq
  refine lv_iconst (v := (0 : Int32)) hx hb dX8_worst_0 (by decide) ?_
  refine lv_istore_n (lv' := [(1, .int (0 : Int32)), (0, .ref (ad o0))]) hx hb dX8_worst_1 rfl hl (by decide) rfl (fun ls hl => ?_)
  refine lv_iconst (v := (0 : Int32)) hx hb dX8_worst_2 (by decide) ?_
  refine lv_istore_n (lv' := [(2, .int (0 : Int32)), (1, .int (0 : Int32)), (0, .ref (ad o0))]) hx hb dX8_worst_3 rfl hl (by decide) rfl (fun ls hl => ?_)
  obtain ⟨fu4, hq⟩ := hq
  have lp4 : ∀ (fu4 : Nat) (x3 : Int32) (x4 : Int32) (H : Heap) (locs : List Loc) (ls : Array Slot), lpX8_worst_4 M o0 n0 Q fu4 x3 x4 → zH D Y ad kd RL M J A s.heap H locs s → lv_has ls 4 [(0, .ref (ad o0)), (1, .int x3), (2, .int x4)] → W p l e rmX8_worst s m ar below meth c H locs 0 0 QE (F0 m 4 ls []) := by
    intro fu4
    induction fu4 with
    | zero => intro x3 x4 H locs ls hq; exact hq.elim
    | succ fu4 ih4 =>
      intro x3 x4 H locs ls hq hw hl
      unfold lpX8_worst_4 at hq
      refine lv_iload_n hx hb dX8_worst_4 rfl (lv_at hl 2 rfl) ?_
      refine lv_iconst (v := (1 : Int32)) hx hb dX8_worst_5 (by decide) ?_
      refine lv_iadd hx hb dX8_worst_6 ?_
      refine lv_aload_n hx hb dX8_worst_7 rfl (lv_at hl 0 rfl) ?_
      refine lv_iconst (v := (0 : Int32)) hx hb dX8_worst_8 (by decide) ?_
      obtain ⟨hi, hq⟩ := hq
      refine z_iald (n := n0) hx hb hw h_o0 hi dX8_worst_9 ?_
      refine lv_icmp_ge (tgt := 36) hx hb dX8_worst_10 (by decide) (fun hc => ?_) (fun hc => ?_)
      · have hq := hq.1 hc
        refine lv_iload_n hx hb dX8_worst_36 rfl (lv_at hl 1 rfl) ?_
        exact z_iret hQE hx hb hr hlk hw dX8_worst_37 ⟨hq, rfl, rfl⟩
      · have hq := hq.2 hc
        refine lv_aload_n hx hb dX8_worst_13 rfl (lv_at hl 0 rfl) ?_
        refine lv_iload_n hx hb dX8_worst_14 rfl (lv_at hl 2 rfl) ?_
        refine z_csi ⟨hx, hb, hml, hown, hts⟩ hw (kX8_step h_o0 hq) (va_cwS 2 hts gX8_worst_X8_step rfl rfl rfl (by decide +kernel) ⟨Nat.le_of_ble_eq_true rfl, Nat.le_of_ble_eq_true rfl⟩) rfl hl.1 rfl (Nat.le_of_ble_eq_true rfl) dX8_worst_15 ⟨Nat.zero_le _, Nat.zero_le _⟩ (fun r5 M0 J0 H locs hq hw => ?_)
        obtain ⟨hq, rfl, rfl⟩ := hq
        refine lv_istore_n (lv' := [(3, .int r5), (0, .ref (ad o0)), (1, .int x3), (2, .int x4)]) hx hb dX8_worst_18 rfl hl (by decide) rfl (fun ls hl => ?_)
        refine lv_iload_n hx hb dX8_worst_19 rfl (lv_at hl 0 rfl) ?_
        refine lv_iload_n hx hb dX8_worst_20 rfl (lv_at hl 2 rfl) ?_
        refine lv_icmp_le (tgt := 28) hx hb dX8_worst_21 (by decide) (fun hc => ?_) (fun hc => ?_)
        · have hq := hq.1 hc
          refine lv_iload_n hx hb dX8_worst_28 rfl (lv_at hl 2 rfl) ?_
          refine lv_istore_n (lv' := [(1, .int x3), (3, .int r5), (0, .ref (ad o0)), (2, .int x4)]) hx hb dX8_worst_29 rfl hl (by decide) rfl (fun ls hl => ?_)
          obtain ⟨x6, e_x6⟩ : ∃ y : Int32, y = x4 + (1 : Int32) := ⟨_, rfl⟩
          have hq := hq x6 e_x6
          refine lv_iinc (v := x6) (lv' := [(2, .int x6), (1, .int x3), (3, .int r5), (0, .ref (ad o0))]) hx hb dX8_worst_30 hl (k := 3) rfl (by rw [e_x6]; rfl) (by decide) rfl (fun ls hl => ?_)
          refine lv_goto (tgt := 4) hx hb dX8_worst_33 (by decide) ?_
          exact ih4 x3 x6 _ _ _ hq hw (lv_sub hl [3, 1, 0] rfl)
        · have hq := hq.2 hc
          refine lv_iload_n hx hb dX8_worst_24 rfl (lv_at hl 0 rfl) ?_
          refine lv_goto (tgt := 29) hx hb dX8_worst_25 (by decide) ?_
          refine lv_istore_n (lv' := [(1, .int r5), (3, .int r5), (0, .ref (ad o0)), (2, .int x4)]) hx hb dX8_worst_29 rfl hl (by decide) rfl (fun ls hl => ?_)
          obtain ⟨x7, e_x7⟩ : ∃ y : Int32, y = x4 + (1 : Int32) := ⟨_, rfl⟩
          have hq := hq x7 e_x7
          refine lv_iinc (v := x7) (lv' := [(2, .int x7), (1, .int r5), (3, .int r5), (0, .ref (ad o0))]) hx hb dX8_worst_30 hl (k := 3) rfl (by rw [e_x7]; rfl) (by decide) rfl (fun ls hl => ?_)
          refine lv_goto (tgt := 4) hx hb dX8_worst_33 (by decide) ?_
          exact ih4 r5 x7 _ _ _ hq hw (lv_sub hl [3, 1, 0] rfl)
  exact lp4 fu4 (0 : Int32) (0 : Int32) _ _ _ hq hw (lv_sub hl [2, 1, 0] rfl)
