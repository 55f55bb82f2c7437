set_option maxRecDepth 20000 in
theorem ggX8_uneven_X8_step : GoodIn wsX8_uneven wsX8_step := goodIn_r _ [4, 5, 6, 3, 7, 8, 9, 10, 11, 12, 13, 14, 15, 16, 17, 18, 19] (by decide +kernel) (by decide +kernel)
set_option maxRecDepth 20000 in
theorem gX8_uneven_X8_step : GoodIn wsX8_uneven (va_wsS RX8 156 yX8_step wsX8_step) := goodIn_app (goodIn_of _ (by decide +kernel)) ggX8_uneven_X8_step
theorem dX8_uneven_0 : decode cX8_uneven 0 = .ok (.iconst 0, 1) := by decide +kernel
theorem dX8_uneven_1 : decode cX8_uneven 1 = .ok (.istore_n 1, 1) := by decide +kernel
theorem dX8_uneven_2 : decode cX8_uneven 2 = .ok (.iconst 0, 1) := by decide +kernel
theorem dX8_uneven_3 : decode cX8_uneven 3 = .ok (.istore_n 2, 1) := by decide +kernel
theorem dX8_uneven_4 : decode cX8_uneven 4 = .ok (.iload_n 2, 1) := by decide +kernel
theorem dX8_uneven_5 : decode cX8_uneven 5 = .ok (.iconst 1, 1) := by decide +kernel
theorem dX8_uneven_6 : decode cX8_uneven 6 = .ok (.iadd, 1) := by decide +kernel
theorem dX8_uneven_7 : decode cX8_uneven 7 = .ok (.aload_n 0, 1) := by decide +kernel
theorem dX8_uneven_8 : decode cX8_uneven 8 = .ok (.iconst 0, 1) := by decide +kernel
theorem dX8_uneven_9 : decode cX8_uneven 9 = .ok (.iaload, 1) := by decide +kernel
theorem dX8_uneven_10 : decode cX8_uneven 10 = .ok (.if_icmp .ge 17, 3) := by decide +kernel
theorem dX8_uneven_13 : decode cX8_uneven 13 = .ok (.iload_n 1, 1) := by decide +kernel
theorem dX8_uneven_14 : decode cX8_uneven 14 = .ok (.aload_n 0, 1) := by decide +kernel
theorem dX8_uneven_15 : decode cX8_uneven 15 = .ok (.iload_n 2, 1) := by decide +kernel
theorem dX8_uneven_16 : decode cX8_uneven 16 = .ok (.invokestatic 156, 3) := by decide +kernel
theorem dX8_uneven_19 : decode cX8_uneven 19 = .ok (.iadd, 1) := by decide +kernel
theorem dX8_uneven_20 : decode cX8_uneven 20 = .ok (.istore_n 1, 1) := by decide +kernel
theorem dX8_uneven_21 : decode cX8_uneven 21 = .ok (.iinc 2 1, 3) := by decide +kernel
theorem dX8_uneven_24 : decode cX8_uneven 24 = .ok (.goto (-20), 3) := by decide +kernel
theorem dX8_uneven_27 : decode cX8_uneven 27 = .ok (.iload_n 1, 1) := by decide +kernel
theorem dX8_uneven_28 : decode cX8_uneven 28 = .ok (.ireturn, 1) := by decide +kernel
def rmX8_uneven : Room := { frames := 4, cells := 0, slots := 0, locals := 85 }
def lpX8_uneven_4 (M : zM) (o0 : Nat) (n0 : Nat) (Q : Int32 → Prop) : Nat → Int32 → Int32 → Prop
  | 0, _, _ => False
  | fu4 + 1, x3, x4 =>
    vp_in (0 : Int32) n0 ∧
    (((M o0 (0 : Int32).toNatClampNeg) ≤ (x4 + (1 : Int32))) → (
    Q x3)) ∧
    ((¬ (M o0 (0 : Int32).toNatClampNeg) ≤ (x4 + (1 : Int32))) → (
    wX8_step M o0 n0 x4 (fun r5 =>
    ∀ x6 : Int32, x6 = x4 + (1 : Int32) →
    lpX8_uneven_4 M o0 n0 Q fu4 (x3 + r5) x6)))
def wX8_uneven (M : zM) (o0 : Nat) (n0 : Nat) (Q : Int32 → Prop) : Prop :=
    ∃ fu4 : Nat, lpX8_uneven_4 M o0 n0 Q fu4 (0 : Int32) (0 : Int32)
set_option maxHeartbeats 4000000 in
set_option maxRecDepth 100000 in
theorem kX8_uneven {l : Launch} {D : va_G} {Y : zY} {ad kd : Nat → Nat} {RL : List Nat} {M : zM} {J : zL} {o0 n0 : Nat} (h_o0 : kd o0 = 1000 + n0) {Q : Int32 → Prop} (hq : wX8_uneven M o0 n0 Q) : zCi l yX8_uneven wsX8_uneven rmX8_uneven [.ref (ad o0)] D Y ad kd RL M J (fun r M' J' => Q r ∧ M = M' ∧ J = J') := by
  refine z_meti (cc := cX8_uneven) (maxL := 3) (ret := (some .int)) (by decide) rfl (Nat.le_of_ble_eq_true rfl) ?_
  intro p e s m below meth c ls A ar QE hQE hx hb hr hml hown hts hlk hw hl
  have hown : s.vm.findClass RX8 = some m.cls := hown
  have hl : lv_has ls 3 [(0, .ref (ad o0))] := hl
  have hC := hw.2.2.2.2.2.1
  unfold wX8_uneven at hq
  refine lv_iconst (v := (0 : Int32)) hx hb dX8_uneven_0 (by decide) ?_
  refine lv_istore_n (lv' := [(1, .int (0 : Int32)), (0, .ref (ad o0))]) hx hb dX8_uneven_1 rfl hl (by decide) rfl (fun ls hl => ?_)
  refine lv_iconst (v := (0 : Int32)) hx hb dX8_uneven_2 (by decide) ?_
  refine lv_istore_n (lv' := [(2, .int (0 : Int32)), (1, .int (0 : Int32)), (0, .ref (ad o0))]) hx hb dX8_uneven_3 rfl hl (by decide) rfl (fun ls hl => ?_)
  obtain ⟨fu4, hq⟩ := hq
  have lp4 : ∀ (fu4 : Nat) (x3 : Int32) (x4 : Int32) (H : Heap) (locs : List Loc) (ls : Array Slot), lpX8_uneven_4 M o0 n0 Q fu4 x3 x4 → zH D Y ad kd RL M J A s.heap H locs s → lv_has ls 3 [(0, .ref (ad o0)), (1, .int x3), (2, .int x4)] → W p l e rmX8_uneven s m ar below meth c H locs 0 0 QE (F0 m 4 ls []) := by
    intro fu4
    induction fu4 with
    | zero => intro x3 x4 H locs ls hq; exact hq.elim
    | succ fu4 ih4 =>
      intro x3 x4 H locs ls hq hw hl
      unfold lpX8_uneven_4 at hq
      refine lv_iload_n hx hb dX8_uneven_4 rfl (lv_at hl 2 rfl) ?_
      refine lv_iconst (v := (1 : Int32)) hx hb dX8_uneven_5 (by decide) ?_
      refine lv_iadd hx hb dX8_uneven_6 ?_
      refine lv_aload_n hx hb dX8_uneven_7 rfl (lv_at hl 0 rfl) ?_
      refine lv_iconst (v := (0 : Int32)) hx hb dX8_uneven_8 (by decide) ?_
      obtain ⟨hi, hq⟩ := hq
      refine z_iald (n := n0) hx hb hw h_o0 hi dX8_uneven_9 ?_
      refine lv_icmp_ge (tgt := 27) hx hb dX8_uneven_10 (by decide) (fun hc => ?_) (fun hc => ?_)
      · have hq := hq.1 hc
        refine lv_iload_n hx hb dX8_uneven_27 rfl (lv_at hl 1 rfl) ?_
        exact z_iret hQE hx hb hr hlk hw dX8_uneven_28 ⟨hq, rfl, rfl⟩
      · have hq := hq.2 hc
        refine lv_iload_n hx hb dX8_uneven_13 rfl (lv_at hl 1 rfl) ?_
        refine lv_aload_n hx hb dX8_uneven_14 rfl (lv_at hl 0 rfl) ?_
        refine lv_iload_n hx hb dX8_uneven_15 rfl (lv_at hl 2 rfl) ?_
        refine z_csi ⟨hx, hb, hml, hown, hts⟩ hw (kX8_step h_o0 hq) (va_cwS 2 hts gX8_uneven_X8_step rfl rfl rfl (by decide +kernel) ⟨Nat.le_of_ble_eq_true rfl, Nat.le_of_ble_eq_true rfl⟩) rfl hl.1 rfl (Nat.le_of_ble_eq_true rfl) dX8_uneven_16 ⟨Nat.zero_le _, Nat.zero_le _⟩ (fun r5 M0 J0 H locs hq hw => ?_)
        obtain ⟨hq, rfl, rfl⟩ := hq
        refine lv_iadd hx hb dX8_uneven_19 ?_
        refine lv_istore_n (lv' := [(1, .int (x3 + r5)), (0, .ref (ad o0)), (2, .int x4)]) hx hb dX8_uneven_20 rfl hl (by decide) rfl (fun ls hl => ?_)
        obtain ⟨x6, e_x6⟩ : ∃ y : Int32, y = x4 + (1 : Int32) := ⟨_, rfl⟩
        have hq := hq x6 e_x6
        refine lv_iinc (v := x6) (lv' := [(2, .int x6), (1, .int (x3 + r5)), (0, .ref (ad o0))]) hx hb dX8_uneven_21 hl (k := 2) rfl (by rw [e_x6]; rfl) (by decide) rfl (fun ls hl => ?_)
        refine lv_goto (tgt := 4) hx hb dX8_uneven_24 (by decide) ?_
        exact ih4 (x3 + r5) x6 _ _ _ hq hw (lv_sub hl [2, 1, 0] rfl)
  exact lp4 fu4 (0 : Int32) (0 : Int32) _ _ _ hq hw (lv_sub hl [2, 1, 0] rfl)
set_option maxRecDepth 20000 in
theorem ggX8_moved_X8_size : GoodIn wsX8_moved wsX8_size := goodIn_r _ [4] (by decide +kernel) (by decide +kernel)
set_option maxRecDepth 20000 in
theorem gX8_moved_X8_size : GoodIn wsX8_moved (va_wsS RX8 153 yX8_size wsX8_size) := goodIn_app (goodIn_of _ (by decide +kernel)) ggX8_moved_X8_size
theorem dX8_moved_0 : decode cX8_moved 0 = .ok (.iconst 0, 1) := by decide +kernel
theorem dX8_moved_1 : decode cX8_moved 1 = .ok (.istore_n 1, 1) := by decide +kernel
theorem dX8_moved_2 : decode cX8_moved 2 = .ok (.iconst 0, 1) := by decide +kernel
theorem dX8_moved_3 : decode cX8_moved 3 = .ok (.istore_n 2, 1) := by decide +kernel
theorem dX8_moved_4 : decode cX8_moved 4 = .ok (.iload_n 2, 1) := by decide +kernel
theorem dX8_moved_5 : decode cX8_moved 5 = .ok (.aload_n 0, 1) := by decide +kernel
theorem dX8_moved_6 : decode cX8_moved 6 = .ok (.iconst 0, 1) := by decide +kernel
theorem dX8_moved_7 : decode cX8_moved 7 = .ok (.iaload, 1) := by decide +kernel
theorem dX8_moved_8 : decode cX8_moved 8 = .ok (.if_icmp .ge 24, 3) := by decide +kernel
theorem dX8_moved_11 : decode cX8_moved 11 = .ok (.iload_n 1, 1) := by decide +kernel
theorem dX8_moved_12 : decode cX8_moved 12 = .ok (.aload_n 0, 1) := by decide +kernel
theorem dX8_moved_13 : decode cX8_moved 13 = .ok (.iconst 2, 1) := by decide +kernel
theorem dX8_moved_14 : decode cX8_moved 14 = .ok (.iconst 4, 1) := by decide +kernel
theorem dX8_moved_15 : decode cX8_moved 15 = .ok (.iload_n 2, 1) := by decide +kernel
theorem dX8_moved_16 : decode cX8_moved 16 = .ok (.imul, 1) := by decide +kernel
theorem dX8_moved_17 : decode cX8_moved 17 = .ok (.iadd, 1) := by decide +kernel
theorem dX8_moved_18 : decode cX8_moved 18 = .ok (.iconst 3, 1) := by decide +kernel
theorem dX8_moved_19 : decode cX8_moved 19 = .ok (.iadd, 1) := by decide +kernel
theorem dX8_moved_20 : decode cX8_moved 20 = .ok (.iaload, 1) := by decide +kernel
theorem dX8_moved_21 : decode cX8_moved 21 = .ok (.invokestatic 153, 3) := by decide +kernel
theorem dX8_moved_24 : decode cX8_moved 24 = .ok (.iadd, 1) := by decide +kernel
theorem dX8_moved_25 : decode cX8_moved 25 = .ok (.istore_n 1, 1) := by decide +kernel
theorem dX8_moved_26 : decode cX8_moved 26 = .ok (.iinc 2 1, 3) := by decide +kernel
theorem dX8_moved_29 : decode cX8_moved 29 = .ok (.goto (-25), 3) := by decide +kernel
theorem dX8_moved_32 : decode cX8_moved 32 = .ok (.iload_n 1, 1) := by decide +kernel
theorem dX8_moved_33 : decode cX8_moved 33 = .ok (.ireturn, 1) := by decide +kernel
def rmX8_moved : Room := { frames := 1, cells := 0, slots := 0, locals := 20 }
def lpX8_moved_4 (M : zM) (o0 : Nat) (n0 : Nat) (Q : Int32 → Prop) : Nat → Int32 → Int32 → Prop
  | 0, _, _ => False
  | fu4 + 1, x3, x4 =>
    vp_in (0 : Int32) n0 ∧
    (((M o0 (0 : Int32).toNatClampNeg) ≤ x4) → (
    Q x3)) ∧
    ((¬ (M o0 (0 : Int32).toNatClampNeg) ≤ x4) → (
    ∀ x5 : Int32, x5 = (((2 : Int32) + ((4 : Int32) * x4)) + (3 : Int32)) →
    vp_in x5 n0 ∧
    wX8_size M (M o0 x5.toNatClampNeg) (fun r6 =>
    ∀ x7 : Int32, x7 = x4 + (1 : Int32) →
    lpX8_moved_4 M o0 n0 Q fu4 (x3 + r6) x7)))
def wX8_moved (M : zM) (o0 : Nat) (n0 : Nat) (Q : Int32 → Prop) : Prop :=
    ∃ fu4 : Nat, lpX8_moved_4 M o0 n0 Q fu4 (0 : Int32) (0 : Int32)
set_option maxHeartbeats 4000000 in
set_option maxRecDepth 100000 in
theorem kX8_moved {l : Launch} {D : va_G} {Y : zY} {ad kd : Nat → Nat} {RL : List Nat} {M : zM} {J : zL} {o0 n0 : Nat} (h_o0 : kd o0 = 1000 + n0) {Q : Int32 → Prop} (hq : wX8_moved M o0 n0 Q) : zCi l yX8_moved wsX8_moved rmX8_moved [.ref (ad o0)] D Y ad kd RL M J (fun r M' J' => Q r ∧ M = M' ∧ J = J') := by
  refine z_meti (cc := cX8_moved) (maxL := 3) (ret := (some .int)) (by decide) rfl (Nat.le_of_ble_eq_true rfl) ?_
  intro p e s m below meth c ls A ar QE hQE hx hb hr hml hown hts hlk hw hl
  have hown : s.vm.findClass RX8 = some m.cls := hown
  have hl : lv_has ls 3 [(0, .ref (ad o0))] := hl
  have hC := hw.2.2.2.2.2.1
  unfold wX8_moved at hq
  refine lv_iconst (v := (0 : Int32)) hx hb dX8_moved_0 (by decide) ?_
  refine lv_istore_n (lv' := [(1, .int (0 : Int32)), (0, .ref (ad o0))]) hx hb dX8_moved_1 rfl hl (by decide) rfl (fun ls hl => ?_)
  refine lv_iconst (v := (0 : Int32)) hx hb dX8_moved_2 (by decide) ?_
  refine lv_istore_n (lv' := [(2, .int (0 : Int32)), (1, .int (0 : Int32)), (0, .ref (ad o0))]) hx hb dX8_moved_3 rfl hl (by decide) rfl (fun ls hl => ?_)
  obtain ⟨fu4, hq⟩ := hq
  have lp4 : ∀ (fu4 : Nat) (x3 : Int32) (x4 : Int32) (H : Heap) (locs : List Loc) (ls : Array Slot), lpX8_moved_4 M o0 n0 Q fu4 x3 x4 → zH D Y ad kd RL M J A s.heap H locs s → lv_has ls 3 [(0, .ref (ad o0)), (1, .int x3), (2, .int x4)] → W p l e rmX8_moved s m ar below meth c H locs 0 0 QE (F0 m 4 ls []) := by
    intro fu4
    induction fu4 with
    | zero => intro x3 x4 H locs ls hq; exact hq.elim
    | succ fu4 ih4 =>
      intro x3 x4 H locs ls hq hw hl
      unfold lpX8_moved_4 at hq
      refine lv_iload_n hx hb dX8_moved_4 rfl (lv_at hl 2 rfl) ?_
      refine lv_aload_n hx hb dX8_moved_5 rfl (lv_at hl 0 rfl) ?_
      refine lv_iconst (v := (0 : Int32)) hx hb dX8_moved_6 (by decide) ?_
      obtain ⟨hi, hq⟩ := hq
      refine z_iald (n := n0) hx hb hw h_o0 hi dX8_moved_7 ?_
      refine lv_icmp_ge (tgt := 32) hx hb dX8_moved_8 (by decide) (fun hc => ?_) (fun hc => ?_)
      · have hq := hq.1 hc
        refine lv_iload_n hx hb dX8_moved_32 rfl (lv_at hl 1 rfl) ?_
        exact z_iret hQE hx hb hr hlk hw dX8_moved_33 ⟨hq, rfl, rfl⟩
      · have hq := hq.2 hc
        refine lv_iload_n hx hb dX8_moved_11 rfl (lv_at hl 1 rfl) ?_
        refine lv_aload_n hx hb dX8_moved_12 rfl (lv_at hl 0 rfl) ?_
        refine lv_iconst (v := (2 : Int32)) hx hb dX8_moved_13 (by decide) ?_
        refine lv_iconst (v := (4 : Int32)) hx hb dX8_moved_14 (by decide) ?_
        refine lv_iload_n hx hb dX8_moved_15 rfl (lv_at hl 2 rfl) ?_
        refine lv_imul hx hb dX8_moved_16 ?_
        refine lv_iadd hx hb dX8_moved_17 ?_
        refine lv_iconst (v := (3 : Int32)) hx hb dX8_moved_18 (by decide) ?_
        refine lv_iadd hx hb dX8_moved_19 ?_
        refine lv_topi (fun x5 e_x5 => ?_)
        have hq := hq x5 e_x5
        obtain ⟨hi, hq⟩ := hq
        refine z_iald (n := n0) hx hb hw h_o0 hi dX8_moved_20 ?_
        refine z_csi ⟨hx, hb, hml, hown, hts⟩ hw (kX8_size  hq) (va_cwS 1 hts gX8_moved_X8_size rfl rfl rfl (by decide +kernel) ⟨Nat.le_of_ble_eq_true rfl, Nat.le_of_ble_eq_true rfl⟩) rfl hl.1 rfl (Nat.le_of_ble_eq_true rfl) dX8_moved_21 ⟨Nat.zero_le _, Nat.zero_le _⟩ (fun r6 M0 J0 H locs hq hw => ?_)
        obtain ⟨hq, rfl, rfl⟩ := hq
        refine lv_iadd hx hb dX8_moved_24 ?_
        refine lv_istore_n (lv' := [(1, .int (x3 + r6)), (0, .ref (ad o0)), (2, .int x4)]) hx hb dX8_moved_25 rfl hl (by decide) rfl (fun ls hl => ?_)
        obtain ⟨x7, e_x7⟩ : ∃ y : Int32, y = x4 + (1 : Int32) := ⟨_, rfl⟩
        have hq := hq x7 e_x7
        refine lv_iinc (v := x7) (lv' := [(2, .int x7), (1, .int (x3 + r6)), (0, .ref (ad o0))]) hx hb dX8_moved_26 hl (k := 2) rfl (by rw [e_x7]; rfl) (by decide) rfl (fun ls hl => ?_)
        refine lv_goto (tgt := 4) hx hb dX8_moved_29 (by decide) ?_
        exact ih4 (x3 + r6) x7 _ _ _ hq hw (lv_sub hl [2, 1, 0] rfl)
  exact lp4 fu4 (0 : Int32) (0 : Int32) _ _ _ hq hw (lv_sub hl [2, 1, 0] rfl)
theorem dX8_settles_0 : decode cX8_settles 0 = .ok (.aload_n 0, 1) := by decide +kernel
theorem dX8_settles_1 : decode cX8_settles 1 = .ok (.iconst 2, 1) := by decide +kernel
theorem dX8_settles_2 : decode cX8_settles 2 = .ok (.iconst 4, 1) := by decide +kernel
theorem dX8_settles_3 : decode cX8_settles 3 = .ok (.iload_n 1, 1) := by decide +kernel
theorem dX8_settles_4 : decode cX8_settles 4 = .ok (.imul, 1) := by decide +kernel
theorem dX8_settles_5 : decode cX8_settles 5 = .ok (.iadd, 1) := by decide +kernel
theorem dX8_settles_6 : decode cX8_settles 6 = .ok (.iconst 3, 1) := by decide +kernel
theorem dX8_settles_7 : decode cX8_settles 7 = .ok (.iadd, 1) := by decide +kernel
theorem dX8_settles_8 : decode cX8_settles 8 = .ok (.dup2, 1) := by decide +kernel
theorem dX8_settles_9 : decode cX8_settles 9 = .ok (.iaload, 1) := by decide +kernel
theorem dX8_settles_10 : decode cX8_settles 10 = .ok (.aload_n 0, 1) := by decide +kernel
theorem dX8_settles_11 : decode cX8_settles 11 = .ok (.iconst 2, 1) := by decide +kernel
theorem dX8_settles_12 : decode cX8_settles 12 = .ok (.iconst 4, 1) := by decide +kernel
theorem dX8_settles_13 : decode cX8_settles 13 = .ok (.iload_n 1, 1) := by decide +kernel
theorem dX8_settles_14 : decode cX8_settles 14 = .ok (.imul, 1) := by decide +kernel
theorem dX8_settles_15 : decode cX8_settles 15 = .ok (.iadd, 1) := by decide +kernel
theorem dX8_settles_16 : decode cX8_settles 16 = .ok (.iconst 3, 1) := by decide +kernel
theorem dX8_settles_17 : decode cX8_settles 17 = .ok (.iadd, 1) := by decide +kernel
theorem dX8_settles_18 : decode cX8_settles 18 = .ok (.iaload, 1) := by decide +kernel
theorem dX8_settles_19 : decode cX8_settles 19 = .ok (.iconst 2, 1) := by decide +kernel
theorem dX8_settles_20 : decode cX8_settles 20 = .ok (.idiv, 1) := by decide +kernel
theorem dX8_settles_21 : decode cX8_settles 21 = .ok (.isub, 1) := by decide +kernel
theorem dX8_settles_22 : decode cX8_settles 22 = .ok (.iastore, 1) := by decide +kernel
theorem dX8_settles_23 : decode cX8_settles 23 = .ok (.return_, 1) := by decide +kernel
def rmX8_settles : Room := { frames := 0, cells := 0, slots := 0, locals := 0 }
def wX8_settles (M : zM) (o0 : Nat) (n0 : Nat) (x1 : Int32) (Q : zM → Prop) : Prop :=
    ∀ x4 : Int32, x4 = (((2 : Int32) + ((4 : Int32) * x1)) + (3 : Int32)) →
    vp_in x4 n0 ∧
    ∀ x5 : Int32, x5 = (((2 : Int32) + ((4 : Int32) * x1)) + (3 : Int32)) →
    vp_in x5 n0 ∧
    ∀ x6 : Int32, x6 = ((M o0 x4.toNatClampNeg) - ((M o0 x5.toNatClampNeg) / (2 : Int32))) →
    vp_in x4 n0 ∧
    ∀ M7 : zM, M7 = va_up M o0 (upd (M o0) x4.toNatClampNeg x6) →
    Q M7
set_option maxHeartbeats 4000000 in
set_option maxRecDepth 100000 in
theorem kX8_settles {l : Launch} {D : va_G} {Y : zY} {ad kd : Nat → Nat} {RL : List Nat} {M : zM} {J : zL} {o0 n0 : Nat} {x1 : Int32} (h_o0 : kd o0 = 1000 + n0) {Q : zM → Prop} (hq : wX8_settles M o0 n0 x1 Q) : zCv l yX8_settles wsX8_settles rmX8_settles [.ref (ad o0), .int x1] D Y ad kd RL M J (fun M' J' => Q M' ∧ J = J') := by
  refine z_metv (cc := cX8_settles) (maxL := 2) (ret := none) (by decide) rfl (Nat.le_of_ble_eq_true rfl) ?_
  intro p e s m below meth c ls A ar QE hQE hx hb hr hml hown hts hlk hw hl
  have hown : s.vm.findClass RX8 = some m.cls := hown
  have hl : lv_has ls 2 [(0, .ref (ad o0)), (1, .int x1)] := hl
  have hC := hw.2.2.2.2.2.1
  unfold wX8_settles at hq
  refine lv_aload_n hx hb dX8_settles_0 rfl (lv_at hl 0 rfl) ?_
  refine lv_iconst (v := (2 : Int32)) hx hb dX8_settles_1 (by decide) ?_
  refine lv_iconst (v := (4 : Int32)) hx hb dX8_settles_2 (by decide) ?_
  refine lv_iload_n hx hb dX8_settles_3 rfl (lv_at hl 1 rfl) ?_
  refine lv_imul hx hb dX8_settles_4 ?_
  refine lv_iadd hx hb dX8_settles_5 ?_
  refine lv_iconst (v := (3 : Int32)) hx hb dX8_settles_6 (by decide) ?_
  refine lv_iadd hx hb dX8_settles_7 ?_
  refine lv_topi (fun x4 e_x4 => ?_)
  have hq := hq x4 e_x4
  refine lv_dup2_11 hx hb dX8_settles_8 rfl rfl ?_
  obtain ⟨hi, hq⟩ := hq
  refine z_iald (n := n0) hx hb hw h_o0 hi dX8_settles_9 ?_
  refine lv_aload_n hx hb dX8_settles_10 rfl (lv_at hl 0 rfl) ?_
  refine lv_iconst (v := (2 : Int32)) hx hb dX8_settles_11 (by decide) ?_
  refine lv_iconst (v := (4 : Int32)) hx hb dX8_settles_12 (by decide) ?_
  refine lv_iload_n hx hb dX8_settles_13 rfl (lv_at hl 1 rfl) ?_
  refine lv_imul hx hb dX8_settles_14 ?_
  refine lv_iadd hx hb dX8_settles_15 ?_
  refine lv_iconst (v := (3 : Int32)) hx hb dX8_settles_16 (by decide) ?_
  refine lv_iadd hx hb dX8_settles_17 ?_
  refine lv_topi (fun x5 e_x5 => ?_)
  have hq := hq x5 e_x5
  obtain ⟨hi, hq⟩ := hq
  refine z_iald (n := n0) hx hb hw h_o0 hi dX8_settles_18 ?_
  refine lv_iconst (v := (2 : Int32)) hx hb dX8_settles_19 (by decide) ?_
  refine lv_idiv hx hb dX8_settles_20 (by decide) ?_
  refine lv_isub hx hb dX8_settles_21 ?_
  refine lv_topi (fun x6 e_x6 => ?_)
  have hq := hq x6 e_x6
  obtain ⟨hi, hq⟩ := hq
  refine z_iast (n := n0) hx hb hw h_o0 hi dX8_settles_22 (fun H locs hw => ?_)
  obtain ⟨M7, e_M7⟩ : ∃ y : zM, y = va_up M o0 (upd (M o0) x4.toNatClampNeg x6) := ⟨_, rfl⟩
  rw [← e_M7] at hw
  have hq := hq M7 e_M7
  exact z_vret hQE hx hb hr hlk hw dX8_settles_23 ⟨hq, rfl⟩
set_option maxRecDepth 20000 in
theorem ggX8_works_X8_settles : GoodIn wsX8_works wsX8_settles := goodIn_r _ [4] (by decide +kernel) (by decide +kernel)
set_option maxRecDepth 20000 in
theorem gX8_works_X8_settles : GoodIn wsX8_works (va_wsS RX8 159 yX8_settles wsX8_settles) := goodIn_app (goodIn_of _ (by decide +kernel)) ggX8_works_X8_settles
set_option maxRecDepth 20000 in
theorem ggX8_works_X8_slewOf : GoodIn wsX8_works wsX8_slewOf := goodIn_r _ [7, 8, 9, 3, 10] (by decide +kernel) (by decide +kernel)
set_option maxRecDepth 20000 in
theorem gX8_works_X8_slewOf : GoodIn wsX8_works (va_wsS RX8 142 yX8_slewOf wsX8_slewOf) := goodIn_app (goodIn_of _ (by decide +kernel)) ggX8_works_X8_slewOf
theorem dX8_works_0 : decode cX8_works 0 = .ok (.iconst 0, 1) := by decide +kernel
theorem dX8_works_1 : decode cX8_works 1 = .ok (.istore_n 1, 1) := by decide +kernel
theorem dX8_works_2 : decode cX8_works 2 = .ok (.iload_n 1, 1) := by decide +kernel
theorem dX8_works_3 : decode cX8_works 3 = .ok (.aload_n 0, 1) := by decide +kernel
theorem dX8_works_4 : decode cX8_works 4 = .ok (.iconst 0, 1) := by decide +kernel
theorem dX8_works_5 : decode cX8_works 5 = .ok (.iaload, 1) := by decide +kernel
theorem dX8_works_6 : decode cX8_works 6 = .ok (.if_icmp .ge 25, 3) := by decide +kernel
theorem dX8_works_9 : decode cX8_works 9 = .ok (.aload_n 0, 1) := by decide +kernel
theorem dX8_works_10 : decode cX8_works 10 = .ok (.iconst 2, 1) := by decide +kernel
theorem dX8_works_11 : decode cX8_works 11 = .ok (.iconst 4, 1) := by decide +kernel
theorem dX8_works_12 : decode cX8_works 12 = .ok (.iload_n 1, 1) := by decide +kernel
theorem dX8_works_13 : decode cX8_works 13 = .ok (.imul, 1) := by decide +kernel
theorem dX8_works_14 : decode cX8_works 14 = .ok (.iadd, 1) := by decide +kernel
theorem dX8_works_15 : decode cX8_works 15 = .ok (.iaload, 1) := by decide +kernel
theorem dX8_works_16 : decode cX8_works 16 = .ok (.iconst 2, 1) := by decide +kernel
theorem dX8_works_17 : decode cX8_works 17 = .ok (.if_icmp .ne 8, 3) := by decide +kernel
theorem dX8_works_20 : decode cX8_works 20 = .ok (.aload_n 0, 1) := by decide +kernel
theorem dX8_works_21 : decode cX8_works 21 = .ok (.iload_n 1, 1) := by decide +kernel
theorem dX8_works_22 : decode cX8_works 22 = .ok (.invokestatic 159, 3) := by decide +kernel
theorem dX8_works_25 : decode cX8_works 25 = .ok (.iinc 1 1, 3) := by decide +kernel
theorem dX8_works_28 : decode cX8_works 28 = .ok (.goto (-26), 3) := by decide +kernel
theorem dX8_works_31 : decode cX8_works 31 = .ok (.iconst 0, 1) := by decide +kernel
theorem dX8_works_32 : decode cX8_works 32 = .ok (.istore_n 1, 1) := by decide +kernel
theorem dX8_works_33 : decode cX8_works 33 = .ok (.iload_n 1, 1) := by decide +kernel
theorem dX8_works_34 : decode cX8_works 34 = .ok (.aload_n 0, 1) := by decide +kernel
theorem dX8_works_35 : decode cX8_works 35 = .ok (.iconst 0, 1) := by decide +kernel
theorem dX8_works_36 : decode cX8_works 36 = .ok (.iaload, 1) := by decide +kernel
theorem dX8_works_37 : decode cX8_works 37 = .ok (.if_icmp .ge 85, 3) := by decide +kernel
theorem dX8_works_40 : decode cX8_works 40 = .ok (.iconst 2, 1) := by decide +kernel
theorem dX8_works_41 : decode cX8_works 41 = .ok (.iconst 4, 1) := by decide +kernel
theorem dX8_works_42 : decode cX8_works 42 = .ok (.iload_n 1, 1) := by decide +kernel
theorem dX8_works_43 : decode cX8_works 43 = .ok (.imul, 1) := by decide +kernel
theorem dX8_works_44 : decode cX8_works 44 = .ok (.iadd, 1) := by decide +kernel
theorem dX8_works_45 : decode cX8_works 45 = .ok (.iconst 3, 1) := by decide +kernel
theorem dX8_works_46 : decode cX8_works 46 = .ok (.iadd, 1) := by decide +kernel
theorem dX8_works_47 : decode cX8_works 47 = .ok (.istore_n 2, 1) := by decide +kernel
theorem dX8_works_48 : decode cX8_works 48 = .ok (.aload_n 0, 1) := by decide +kernel
theorem dX8_works_49 : decode cX8_works 49 = .ok (.iconst 2, 1) := by decide +kernel
theorem dX8_works_50 : decode cX8_works 50 = .ok (.iconst 4, 1) := by decide +kernel
theorem dX8_works_51 : decode cX8_works 51 = .ok (.iload_n 1, 1) := by decide +kernel
theorem dX8_works_52 : decode cX8_works 52 = .ok (.imul, 1) := by decide +kernel
theorem dX8_works_53 : decode cX8_works 53 = .ok (.iadd, 1) := by decide +kernel
theorem dX8_works_54 : decode cX8_works 54 = .ok (.iconst 1, 1) := by decide +kernel
theorem dX8_works_55 : decode cX8_works 55 = .ok (.iadd, 1) := by decide +kernel
theorem dX8_works_56 : decode cX8_works 56 = .ok (.iaload, 1) := by decide +kernel
theorem dX8_works_57 : decode cX8_works 57 = .ok (.iconst 2, 1) := by decide +kernel
theorem dX8_works_58 : decode cX8_works 58 = .ok (.aload_n 0, 1) := by decide +kernel
theorem dX8_works_59 : decode cX8_works 59 = .ok (.iload_n 2, 1) := by decide +kernel
theorem dX8_works_60 : decode cX8_works 60 = .ok (.iaload, 1) := by decide +kernel
theorem dX8_works_61 : decode cX8_works 61 = .ok (.imul, 1) := by decide +kernel
theorem dX8_works_62 : decode cX8_works 62 = .ok (.iadd, 1) := by decide +kernel
theorem dX8_works_63 : decode cX8_works 63 = .ok (.aload_n 0, 1) := by decide +kernel
theorem dX8_works_64 : decode cX8_works 64 = .ok (.iload_n 1, 1) := by decide +kernel
theorem dX8_works_65 : decode cX8_works 65 = .ok (.iconst 1, 1) := by decide +kernel
theorem dX8_works_66 : decode cX8_works 66 = .ok (.isub, 1) := by decide +kernel
theorem dX8_works_67 : decode cX8_works 67 = .ok (.invokestatic 142, 3) := by decide +kernel
theorem dX8_works_70 : decode cX8_works 70 = .ok (.isub, 1) := by decide +kernel
theorem dX8_works_71 : decode cX8_works 71 = .ok (.aload_n 0, 1) := by decide +kernel
theorem dX8_works_72 : decode cX8_works 72 = .ok (.iload_n 1, 1) := by decide +kernel
theorem dX8_works_73 : decode cX8_works 73 = .ok (.iconst 1, 1) := by decide +kernel
theorem dX8_works_74 : decode cX8_works 74 = .ok (.iadd, 1) := by decide +kernel
theorem dX8_works_75 : decode cX8_works 75 = .ok (.invokestatic 142, 3) := by decide +kernel
theorem dX8_works_78 : decode cX8_works 78 = .ok (.isub, 1) := by decide +kernel
theorem dX8_works_79 : decode cX8_works 79 = .ok (.istore_n 3, 1) := by decide +kernel
theorem dX8_works_80 : decode cX8_works 80 = .ok (.aload_n 0, 1) := by decide +kernel
theorem dX8_works_81 : decode cX8_works 81 = .ok (.iconst 2, 1) := by decide +kernel
theorem dX8_works_82 : decode cX8_works 82 = .ok (.iconst 4, 1) := by decide +kernel
theorem dX8_works_83 : decode cX8_works 83 = .ok (.iload_n 1, 1) := by decide +kernel
theorem dX8_works_84 : decode cX8_works 84 = .ok (.imul, 1) := by decide +kernel
theorem dX8_works_85 : decode cX8_works 85 = .ok (.iadd, 1) := by decide +kernel
theorem dX8_works_86 : decode cX8_works 86 = .ok (.iconst 1, 1) := by decide +kernel
theorem dX8_works_87 : decode cX8_works 87 = .ok (.iadd, 1) := by decide +kernel
theorem dX8_works_88 : decode cX8_works 88 = .ok (.iload_n 3, 1) := by decide +kernel
theorem dX8_works_89 : decode cX8_works 89 = .ok (.sipush (-999), 3) := by decide +kernel
theorem dX8_works_92 : decode cX8_works 92 = .ok (.if_icmp .ge 9, 3) := by decide +kernel
theorem dX8_works_95 : decode cX8_works 95 = .ok (.sipush (-999), 3) := by decide +kernel
theorem dX8_works_98 : decode cX8_works 98 = .ok (.goto 17, 3) := by decide +kernel
theorem dX8_works_101 : decode cX8_works 101 = .ok (.iload_n 3, 1) := by decide +kernel
theorem dX8_works_102 : decode cX8_works 102 = .ok (.sipush 999, 3) := by decide +kernel
theorem dX8_works_105 : decode cX8_works 105 = .ok (.if_icmp .le 9, 3) := by decide +kernel
theorem dX8_works_108 : decode cX8_works 108 = .ok (.sipush 999, 3) := by decide +kernel
theorem dX8_works_111 : decode cX8_works 111 = .ok (.goto 4, 3) := by decide +kernel
theorem dX8_works_114 : decode cX8_works 114 = .ok (.iload_n 3, 1) := by decide +kernel
theorem dX8_works_115 : decode cX8_works 115 = .ok (.iastore, 1) := by decide +kernel
theorem dX8_works_116 : decode cX8_works 116 = .ok (.iinc 1 1, 3) := by decide +kernel
theorem dX8_works_119 : decode cX8_works 119 = .ok (.goto (-86), 3) := by decide +kernel
theorem dX8_works_122 : decode cX8_works 122 = .ok (.iconst 0, 1) := by decide +kernel
theorem dX8_works_123 : decode cX8_works 123 = .ok (.istore_n 1, 1) := by decide +kernel
theorem dX8_works_124 : decode cX8_works 124 = .ok (.iload_n 1, 1) := by decide +kernel
theorem dX8_works_125 : decode cX8_works 125 = .ok (.aload_n 0, 1) := by decide +kernel
theorem dX8_works_126 : decode cX8_works 126 = .ok (.iconst 0, 1) := by decide +kernel
theorem dX8_works_127 : decode cX8_works 127 = .ok (.iaload, 1) := by decide +kernel
theorem dX8_works_128 : decode cX8_works 128 = .ok (.if_icmp .ge 19, 3) := by decide +kernel
theorem dX8_works_131 : decode cX8_works 131 = .ok (.aload_n 0, 1) := by decide +kernel
theorem dX8_works_132 : decode cX8_works 132 = .ok (.iconst 2, 1) := by decide +kernel
theorem dX8_works_133 : decode cX8_works 133 = .ok (.iconst 4, 1) := by decide +kernel
theorem dX8_works_134 : decode cX8_works 134 = .ok (.iload_n 1, 1) := by decide +kernel
theorem dX8_works_135 : decode cX8_works 135 = .ok (.imul, 1) := by decide +kernel
theorem dX8_works_136 : decode cX8_works 136 = .ok (.iadd, 1) := by decide +kernel
theorem dX8_works_137 : decode cX8_works 137 = .ok (.iconst 3, 1) := by decide +kernel
theorem dX8_works_138 : decode cX8_works 138 = .ok (.iadd, 1) := by decide +kernel
theorem dX8_works_139 : decode cX8_works 139 = .ok (.iconst 0, 1) := by decide +kernel
theorem dX8_works_140 : decode cX8_works 140 = .ok (.iastore, 1) := by decide +kernel
theorem dX8_works_141 : decode cX8_works 141 = .ok (.iinc 1 1, 3) := by decide +kernel
theorem dX8_works_144 : decode cX8_works 144 = .ok (.goto (-20), 3) := by decide +kernel
theorem dX8_works_147 : decode cX8_works 147 = .ok (.aload_n 0, 1) := by decide +kernel
theorem dX8_works_148 : decode cX8_works 148 = .ok (.iconst 1, 1) := by decide +kernel
theorem dX8_works_149 : decode cX8_works 149 = .ok (.dup2, 1) := by decide +kernel
theorem dX8_works_150 : decode cX8_works 150 = .ok (.iaload, 1) := by decide +kernel
theorem dX8_works_151 : decode cX8_works 151 = .ok (.aload_n 0, 1) := by decide +kernel
theorem dX8_works_152 : decode cX8_works 152 = .ok (.iconst 1, 1) := by decide +kernel
theorem dX8_works_153 : decode cX8_works 153 = .ok (.iaload, 1) := by decide +kernel
theorem dX8_works_154 : decode cX8_works 154 = .ok (.sipush 999, 3) := by decide +kernel
theorem dX8_works_157 : decode cX8_works 157 = .ok (.if_icmp .ge 7, 3) := by decide +kernel
theorem dX8_works_160 : decode cX8_works 160 = .ok (.iconst 1, 1) := by decide +kernel
theorem dX8_works_161 : decode cX8_works 161 = .ok (.goto 4, 3) := by decide +kernel
theorem dX8_works_164 : decode cX8_works 164 = .ok (.iconst 0, 1) := by decide +kernel
theorem dX8_works_165 : decode cX8_works 165 = .ok (.iadd, 1) := by decide +kernel
theorem dX8_works_166 : decode cX8_works 166 = .ok (.iastore, 1) := by decide +kernel
theorem dX8_works_167 : decode cX8_works 167 = .ok (.return_, 1) := by decide +kernel
def rmX8_works : Room := { frames := 2, cells := 0, slots := 0, locals := 43 }
def lpX8_works_124 (o0 : Nat) (n0 : Nat) (K124_147 : Int32 → zM → Prop) : Nat → Int32 → zM → Prop
  | 0, _, _ => False
  | fu124 + 1, x11, M12 =>
    vp_in (0 : Int32) n0 ∧
    (((M12 o0 (0 : Int32).toNatClampNeg) ≤ x11) → (
    K124_147 x11 M12)) ∧
    ((¬ (M12 o0 (0 : Int32).toNatClampNeg) ≤ x11) → (
    ∀ x19 : Int32, x19 = (((2 : Int32) + ((4 : Int32) * x11)) + (3 : Int32)) →
    vp_in x19 n0 ∧
    ∀ M20 : zM, M20 = va_up M12 o0 (upd (M12 o0) x19.toNatClampNeg (0 : Int32)) →
    ∀ x21 : Int32, x21 = x11 + (1 : Int32) →
    lpX8_works_124 o0 n0 K124_147 fu124 x21 M20))
def lpX8_works_33 (o0 : Nat) (n0 : Nat) (K33_122 : Int32 → zM → Prop) : Nat → Int32 → zM → Prop
  | 0, _, _ => False
  | fu33 + 1, x7, M8 =>
    vp_in (0 : Int32) n0 ∧
    (((M8 o0 (0 : Int32).toNatClampNeg) ≤ x7) → (
    K33_122 x7 M8)) ∧
    ((¬ (M8 o0 (0 : Int32).toNatClampNeg) ≤ x7) → (
    ∀ x22 : Int32, x22 = (((2 : Int32) + ((4 : Int32) * x7)) + (3 : Int32)) →
    ∀ x23 : Int32, x23 = (((2 : Int32) + ((4 : Int32) * x7)) + (1 : Int32)) →
    vp_in x23 n0 ∧
    vp_in x22 n0 ∧
    ∀ x24 : Int32, x24 = ((M8 o0 x23.toNatClampNeg) + ((2 : Int32) * (M8 o0 x22.toNatClampNeg))) →
    wX8_slewOf M8 o0 n0 (x7 - (1 : Int32)) (fun r25 =>
    wX8_slewOf M8 o0 n0 (x7 + (1 : Int32)) (fun r26 =>
    ∀ x27 : Int32, x27 = (((2 : Int32) + ((4 : Int32) * x7)) + (1 : Int32)) →
    (((-999 : Int32) ≤ ((x24 - r25) - r26)) → (
    ((((x24 - r25) - r26) ≤ (999 : Int32)) → (
    vp_in x27 n0 ∧
    ∀ M28 : zM, M28 = va_up M8 o0 (upd (M8 o0) x27.toNatClampNeg ((x24 - r25) - r26)) →
    ∀ x29 : Int32, x29 = x7 + (1 : Int32) →
    lpX8_works_33 o0 n0 K33_122 fu33 x29 M28)) ∧
    ((¬ ((x24 - r25) - r26) ≤ (999 : Int32)) → (
    vp_in x27 n0 ∧
    ∀ M30 : zM, M30 = va_up M8 o0 (upd (M8 o0) x27.toNatClampNeg (999 : Int32)) →
    ∀ x31 : Int32, x31 = x7 + (1 : Int32) →
    lpX8_works_33 o0 n0 K33_122 fu33 x31 M30)))) ∧
    ((¬ (-999 : Int32) ≤ ((x24 - r25) - r26)) → (
    vp_in x27 n0 ∧
    ∀ M32 : zM, M32 = va_up M8 o0 (upd (M8 o0) x27.toNatClampNeg (-999 : Int32)) →
    ∀ x33 : Int32, x33 = x7 + (1 : Int32) →
    lpX8_works_33 o0 n0 K33_122 fu33 x33 M32))))))
def lpX8_works_2 (o0 : Nat) (n0 : Nat) (K2_31 : Int32 → zM → Prop) : Nat → Int32 → zM → Prop
  | 0, _, _ => False
  | fu2 + 1, x3, M4 =>
    vp_in (0 : Int32) n0 ∧
    (((M4 o0 (0 : Int32).toNatClampNeg) ≤ x3) → (
    K2_31 x3 M4)) ∧
    ((¬ (M4 o0 (0 : Int32).toNatClampNeg) ≤ x3) → (
    vp_in ((2 : Int32) + ((4 : Int32) * x3)) n0 ∧
    ∀ x34 : Int32, x34 = (M4 o0 ((2 : Int32) + ((4 : Int32) * x3)).toNatClampNeg) →
    ((¬ x34 = (2 : Int32)) → (
    ∀ x35 : Int32, x35 = x3 + (1 : Int32) →
    lpX8_works_2 o0 n0 K2_31 fu2 x35 M4)) ∧
    ((x34 = (2 : Int32)) → (
    wX8_settles M4 o0 n0 x3 (fun M36 =>
    ∀ x37 : Int32, x37 = x3 + (1 : Int32) →
    lpX8_works_2 o0 n0 K2_31 fu2 x37 M36)))))
def wX8_works (M : zM) (o0 : Nat) (n0 : Nat) (Q : zM → Prop) : Prop :=
    ∃ fu2 : Nat, lpX8_works_2 o0 n0 (fun x5 M6 =>
    ∃ fu33 : Nat, lpX8_works_33 o0 n0 (fun x9 M10 =>
    ∃ fu124 : Nat, lpX8_works_124 o0 n0 (fun x13 M14 =>
    vp_in (1 : Int32) n0 ∧
    vp_in (1 : Int32) n0 ∧
    (((999 : Int32) ≤ (M14 o0 (1 : Int32).toNatClampNeg)) → (
    ∀ x15 : Int32, x15 = ((M14 o0 (1 : Int32).toNatClampNeg) + (0 : Int32)) →
    vp_in (1 : Int32) n0 ∧
    ∀ M16 : zM, M16 = va_up M14 o0 (upd (M14 o0) (1 : Int32).toNatClampNeg x15) →
    Q M16)) ∧
    ((¬ (999 : Int32) ≤ (M14 o0 (1 : Int32).toNatClampNeg)) → (
    ∀ x17 : Int32, x17 = ((M14 o0 (1 : Int32).toNatClampNeg) + (1 : Int32)) →
    vp_in (1 : Int32) n0 ∧
    ∀ M18 : zM, M18 = va_up M14 o0 (upd (M14 o0) (1 : Int32).toNatClampNeg x17) →
    Q M18))) fu124 (0 : Int32) M10) fu33 (0 : Int32) M6) fu2 (0 : Int32) M
set_option maxHeartbeats 4000000 in
set_option maxRecDepth 100000 in
theorem kX8_works {l : Launch} {D : va_G} {Y : zY} {ad kd : Nat → Nat} {RL : List Nat} {M : zM} {J : zL} {o0 n0 : Nat} (h_o0 : kd o0 = 1000 + n0) {Q : zM → Prop} (hq : wX8_works M o0 n0 Q) : zCv l yX8_works wsX8_works rmX8_works [.ref (ad o0)] D Y ad kd RL M J (fun M' J' => Q M' ∧ J = J') := by
  refine z_metv (cc := cX8_works) (maxL := 4) (ret := none) (by decide) rfl (Nat.le_of_ble_eq_true rfl) ?_
  intro p e s m below meth c ls A ar QE hQE hx hb hr hml hown hts hlk hw hl
  have hown : s.vm.findClass RX8 = some m.cls := hown
  have hl : lv_has ls 4 [(0, .ref (ad o0))] := hl
  have hC := hw.2.2.2.2.2.1
  unfold wX8_works at hq
  refine lv_iconst (v := (0 : Int32)) hx hb dX8_works_0 (by decide) ?_
  refine lv_istore_n (lv' := [(1, .int (0 : Int32)), (0, .ref (ad o0))]) hx hb dX8_works_1 rfl hl (by decide) rfl (fun ls hl => ?_)
  have ex2_31 : ∀ (x5 : Int32) (M6 : zM) (H : Heap) (locs : List Loc) (ls : Array Slot), (∃ fu33 : Nat, lpX8_works_33 o0 n0 (fun x9 M10 => ∃ fu124 : Nat, lpX8_works_124 o0 n0 (fun x13 M14 => vp_in (1 : Int32) n0 ∧ vp_in (1 : Int32) n0 ∧ (((999 : Int32) ≤ (M14 o0 (1 : Int32).toNatClampNeg)) → ( ∀ x15 : Int32, x15 = ((M14 o0 (1 : Int32).toNatClampNeg) + (0 : Int32)) → vp_in (1 : Int32) n0 ∧ ∀ M16 : zM, M16 = va_up M14 o0 (upd (M14 o0) (1 : Int32).toNatClampNeg x15) → Q M16)) ∧ ((¬ (999 : Int32) ≤ (M14 o0 (1 : Int32).toNatClampNeg)) → ( ∀ x17 : Int32, x17 = ((M14 o0 (1 : Int32).toNatClampNeg) + (1 : Int32)) → vp_in (1 : Int32) n0 ∧ ∀ M18 : zM, M18 = va_up M14 o0 (upd (M14 o0) (1 : Int32).toNatClampNeg x17) → Q M18))) fu124 (0 : Int32) M10) fu33 (0 : Int32) M6) → zH D Y ad kd RL M6 J A s.heap H locs s → lv_has ls 4 [(0, .ref (ad o0))] → W p l e rmX8_works s m ar below meth c H locs 0 0 QE (F0 m 31 ls []) := by
    intro x5 M6 H locs ls hq hw hl
    refine lv_iconst (v := (0 : Int32)) hx hb dX8_works_31 (by decide) ?_
    refine lv_istore_n (lv' := [(1, .int (0 : Int32)), (0, .ref (ad o0))]) hx hb dX8_works_32 rfl hl (by decide) rfl (fun ls hl => ?_)
    have ex33_122 : ∀ (x9 : Int32) (M10 : zM) (H : Heap) (locs : List Loc) (ls : Array Slot), (∃ fu124 : Nat, lpX8_works_124 o0 n0 (fun x13 M14 => vp_in (1 : Int32) n0 ∧ vp_in (1 : Int32) n0 ∧ (((999 : Int32) ≤ (M14 o0 (1 : Int32).toNatClampNeg)) → ( ∀ x15 : Int32, x15 = ((M14 o0 (1 : Int32).toNatClampNeg) + (0 : Int32)) → vp_in (1 : Int32) n0 ∧ ∀ M16 : zM, M16 = va_up M14 o0 (upd (M14 o0) (1 : Int32).toNatClampNeg x15) → Q M16)) ∧ ((¬ (999 : Int32) ≤ (M14 o0 (1 : Int32).toNatClampNeg)) → ( ∀ x17 : Int32, x17 = ((M14 o0 (1 : Int32).toNatClampNeg) + (1 : Int32)) → vp_in (1 : Int32) n0 ∧ ∀ M18 : zM, M18 = va_up M14 o0 (upd (M14 o0) (1 : Int32).toNatClampNeg x17) → Q M18))) fu124 (0 : Int32) M10) → zH D Y ad kd RL M10 J A s.heap H locs s → lv_has ls 4 [(0, .ref (ad o0))] → W p l e rmX8_works s m ar below meth c H locs 0 0 QE (F0 m 122 ls []) := by
      intro x9 M10 H locs ls hq hw hl
      refine lv_iconst (v := (0 : Int32)) hx hb dX8_works_122 (by decide) ?_
      refine lv_istore_n (lv' := [(1, .int (0 : Int32)), (0, .ref (ad o0))]) hx hb dX8_works_123 rfl hl (by decide) rfl (fun ls hl => ?_)
      have ex124_147 : ∀ (x13 : Int32) (M14 : zM) (H : Heap) (locs : List Loc) (ls : Array Slot), (vp_in (1 : Int32) n0 ∧ vp_in (1 : Int32) n0 ∧ (((999 : Int32) ≤ (M14 o0 (1 : Int32).toNatClampNeg)) → ( ∀ x15 : Int32, x15 = ((M14 o0 (1 : Int32).toNatClampNeg) + (0 : Int32)) → vp_in (1 : Int32) n0 ∧ ∀ M16 : zM, M16 = va_up M14 o0 (upd (M14 o0) (1 : Int32).toNatClampNeg x15) → Q M16)) ∧ ((¬ (999 : Int32) ≤ (M14 o0 (1 : Int32).toNatClampNeg)) → ( ∀ x17 : Int32, x17 = ((M14 o0 (1 : Int32).toNatClampNeg) + (1 : Int32)) → vp_in (1 : Int32) n0 ∧ ∀ M18 : zM, M18 = va_up M14 o0 (upd (M14 o0) (1 : Int32).toNatClampNeg x17) → Q M18))) → zH D Y ad kd RL M14 J A s.heap H locs s → lv_has ls 4 [(0, .ref (ad o0))] → W p l e rmX8_works s m ar below meth c H locs 0 0 QE (F0 m 147 ls []) := by
        intro x13 M14 H locs ls hq hw hl
        refine lv_aload_n hx hb dX8_works_147 rfl (lv_at hl 0 rfl) ?_
        refine lv_iconst (v := (1 : Int32)) hx hb dX8_works_148 (by decide) ?_
        refine lv_dup2_11 hx hb dX8_works_149 rfl rfl ?_
        obtain ⟨hi, hq⟩ := hq
        refine z_iald (n := n0) hx hb hw h_o0 hi dX8_works_150 ?_
        refine lv_aload_n hx hb dX8_works_151 rfl (lv_at hl 0 rfl) ?_
        refine lv_iconst (v := (1 : Int32)) hx hb dX8_works_152 (by decide) ?_
        obtain ⟨hi, hq⟩ := hq
        refine z_iald (n := n0) hx hb hw h_o0 hi dX8_works_153 ?_
        refine lv_sipush (v := (999 : Int32)) hx hb dX8_works_154 (by decide) ?_
        refine lv_icmp_ge (tgt := 164) hx hb dX8_works_157 (by decide) (fun hc => ?_) (fun hc => ?_)
        · have hq := hq.1 hc
          refine lv_iconst (v := (0 : Int32)) hx hb dX8_works_164 (by decide) ?_
          refine lv_iadd hx hb dX8_works_165 ?_
          refine lv_topi (fun x15 e_x15 => ?_)
          have hq := hq x15 e_x15
          obtain ⟨hi, hq⟩ := hq
          refine z_iast (n := n0) hx hb hw h_o0 hi dX8_works_166 (fun H locs hw => ?_)
          obtain ⟨M16, e_M16⟩ : ∃ y : zM, y = va_up M14 o0 (upd (M14 o0) (1 : Int32).toNatClampNeg x15) := ⟨_, rfl⟩
          rw [← e_M16] at hw
          have hq := hq M16 e_M16
          exact z_vret hQE hx hb hr hlk hw dX8_works_167 ⟨hq, rfl⟩
        · have hq := hq.2 hc
          refine lv_iconst (v := (1 : Int32)) hx hb dX8_works_160 (by decide) ?_
          refine lv_goto (tgt := 165) hx hb dX8_works_161 (by decide) ?_
          refine lv_iadd hx hb dX8_works_165 ?_
          refine lv_topi (fun x17 e_x17 => ?_)
          have hq := hq x17 e_x17
          obtain ⟨hi, hq⟩ := hq
          refine z_iast (n := n0) hx hb hw h_o0 hi dX8_works_166 (fun H locs hw => ?_)
          obtain ⟨M18, e_M18⟩ : ∃ y : zM, y = va_up M14 o0 (upd (M14 o0) (1 : Int32).toNatClampNeg x17) := ⟨_, rfl⟩
          rw [← e_M18] at hw
          have hq := hq M18 e_M18
          exact z_vret hQE hx hb hr hlk hw dX8_works_167 ⟨hq, rfl⟩
      obtain ⟨fu124, hq⟩ := hq
      have lp124 : ∀ (fu124 : Nat) (x11 : Int32) (M12 : zM) (H : Heap) (locs : List Loc) (ls : Array Slot), lpX8_works_124 o0 n0 (fun x13 M14 => vp_in (1 : Int32) n0 ∧ vp_in (1 : Int32) n0 ∧ (((999 : Int32) ≤ (M14 o0 (1 : Int32).toNatClampNeg)) → ( ∀ x15 : Int32, x15 = ((M14 o0 (1 : Int32).toNatClampNeg) + (0 : Int32)) → vp_in (1 : Int32) n0 ∧ ∀ M16 : zM, M16 = va_up M14 o0 (upd (M14 o0) (1 : Int32).toNatClampNeg x15) → Q M16)) ∧ ((¬ (999 : Int32) ≤ (M14 o0 (1 : Int32).toNatClampNeg)) → ( ∀ x17 : Int32, x17 = ((M14 o0 (1 : Int32).toNatClampNeg) + (1 : Int32)) → vp_in (1 : Int32) n0 ∧ ∀ M18 : zM, M18 = va_up M14 o0 (upd (M14 o0) (1 : Int32).toNatClampNeg x17) → Q M18))) fu124 x11 M12 → zH D Y ad kd RL M12 J A s.heap H locs s → lv_has ls 4 [(0, .ref (ad o0)), (1, .int x11)] → W p l e rmX8_works s m ar below meth c H locs 0 0 QE (F0 m 124 ls []) := by
        intro fu124
        induction fu124 with
        | zero => intro x11 M12 H locs ls hq; exact hq.elim
        | succ fu124 ih124 =>
          intro x11 M12 H locs ls hq hw hl
          unfold lpX8_works_124 at hq
          refine lv_iload_n hx hb dX8_works_124 rfl (lv_at hl 1 rfl) ?_
          refine lv_aload_n hx hb dX8_works_125 rfl (lv_at hl 0 rfl) ?_
          refine lv_iconst (v := (0 : Int32)) hx hb dX8_works_126 (by decide) ?_
          obtain ⟨hi, hq⟩ := hq
          refine z_iald (n := n0) hx hb hw h_o0 hi dX8_works_127 ?_
          refine lv_icmp_ge (tgt := 147) hx hb dX8_works_128 (by decide) (fun hc => ?_) (fun hc => ?_)
          · have hq := hq.1 hc
            exact ex124_147 x11 M12 _ _ _ hq hw (lv_sub hl [0] rfl)
          · have hq := hq.2 hc
            refine lv_aload_n hx hb dX8_works_131 rfl (lv_at hl 0 rfl) ?_
            refine lv_iconst (v := (2 : Int32)) hx hb dX8_works_132 (by decide) ?_
            refine lv_iconst (v := (4 : Int32)) hx hb dX8_works_133 (by decide) ?_
            refine lv_iload_n hx hb dX8_works_134 rfl (lv_at hl 1 rfl) ?_
            refine lv_imul hx hb dX8_works_135 ?_
            refine lv_iadd hx hb dX8_works_136 ?_
            refine lv_iconst (v := (3 : Int32)) hx hb dX8_works_137 (by decide) ?_
            refine lv_iadd hx hb dX8_works_138 ?_
            refine lv_topi (fun x19 e_x19 => ?_)
            have hq := hq x19 e_x19
            refine lv_iconst (v := (0 : Int32)) hx hb dX8_works_139 (by decide) ?_
            obtain ⟨hi, hq⟩ := hq
            refine z_iast (n := n0) hx hb hw h_o0 hi dX8_works_140 (fun H locs hw => ?_)
            obtain ⟨M20, e_M20⟩ : ∃ y : zM, y = va_up M12 o0 (upd (M12 o0) x19.toNatClampNeg (0 : Int32)) := ⟨_, rfl⟩
            rw [← e_M20] at hw
            have hq := hq M20 e_M20
            obtain ⟨x21, e_x21⟩ : ∃ y : Int32, y = x11 + (1 : Int32) := ⟨_, rfl⟩
            have hq := hq x21 e_x21
            refine lv_iinc (v := x21) (lv' := [(1, .int x21), (0, .ref (ad o0))]) hx hb dX8_works_141 hl (k := 1) rfl (by rw [e_x21]; rfl) (by decide) rfl (fun ls hl => ?_)
            refine lv_goto (tgt := 124) hx hb dX8_works_144 (by decide) ?_
            exact ih124 x21 M20 _ _ _ hq hw (lv_sub hl [1, 0] rfl)
      exact lp124 fu124 (0 : Int32) M10 _ _ _ hq hw (lv_sub hl [1, 0] rfl)
    obtain ⟨fu33, hq⟩ := hq
    have lp33 : ∀ (fu33 : Nat) (x7 : Int32) (M8 : zM) (H : Heap) (locs : List Loc) (ls : Array Slot), lpX8_works_33 o0 n0 (fun x9 M10 => ∃ fu124 : Nat, lpX8_works_124 o0 n0 (fun x13 M14 => vp_in (1 : Int32) n0 ∧ vp_in (1 : Int32) n0 ∧ (((999 : Int32) ≤ (M14 o0 (1 : Int32).toNatClampNeg)) → ( ∀ x15 : Int32, x15 = ((M14 o0 (1 : Int32).toNatClampNeg) + (0 : Int32)) → vp_in (1 : Int32) n0 ∧ ∀ M16 : zM, M16 = va_up M14 o0 (upd (M14 o0) (1 : Int32).toNatClampNeg x15) → Q M16)) ∧ ((¬ (999 : Int32) ≤ (M14 o0 (1 : Int32).toNatClampNeg)) → ( ∀ x17 : Int32, x17 = ((M14 o0 (1 : Int32).toNatClampNeg) + (1 : Int32)) → vp_in (1 : Int32) n0 ∧ ∀ M18 : zM, M18 = va_up M14 o0 (upd (M14 o0) (1 : Int32).toNatClampNeg x17) → Q M18))) fu124 (0 : Int32) M10) fu33 x7 M8 → zH D Y ad kd RL M8 J A s.heap H locs s → lv_has ls 4 [(0, .ref (ad o0)), (1, .int x7)] → W p l e rmX8_works s m ar below meth c H locs 0 0 QE (F0 m 33 ls []) := by
      intro fu33
      induction fu33 with
      | zero => intro x7 M8 H locs ls hq; exact hq.elim
      | succ fu33 ih33 =>
        intro x7 M8 H locs ls hq hw hl
        unfold lpX8_works_33 at hq
        refine lv_iload_n hx hb dX8_works_33 rfl (lv_at hl 1 rfl) ?_
        refine lv_aload_n hx hb dX8_works_34 rfl (lv_at hl 0 rfl) ?_
        refine lv_iconst (v := (0 : Int32)) hx hb dX8_works_35 (by decide) ?_
        obtain ⟨hi, hq⟩ := hq
        refine z_iald (n := n0) hx hb hw h_o0 hi dX8_works_36 ?_
        refine lv_icmp_ge (tgt := 122) hx hb dX8_works_37 (by decide) (fun hc => ?_) (fun hc => ?_)
        · have hq := hq.1 hc
          exact ex33_122 x7 M8 _ _ _ hq hw (lv_sub hl [0] rfl)
        · have hq := hq.2 hc
          refine lv_iconst (v := (2 : Int32)) hx hb dX8_works_40 (by decide) ?_
          refine lv_iconst (v := (4 : Int32)) hx hb dX8_works_41 (by decide) ?_
          refine lv_iload_n hx hb dX8_works_42 rfl (lv_at hl 1 rfl) ?_
          refine lv_imul hx hb dX8_works_43 ?_
          refine lv_iadd hx hb dX8_works_44 ?_
          refine lv_iconst (v := (3 : Int32)) hx hb dX8_works_45 (by decide) ?_
          refine lv_iadd hx hb dX8_works_46 ?_
          refine lv_topi (fun x22 e_x22 => ?_)
          have hq := hq x22 e_x22
          refine lv_istore_n (lv' := [(2, .int x22), (0, .ref (ad o0)), (1, .int x7)]) hx hb dX8_works_47 rfl hl (by decide) rfl (fun ls hl => ?_)
          refine lv_aload_n hx hb dX8_works_48 rfl (lv_at hl 1 rfl) ?_
          refine lv_iconst (v := (2 : Int32)) hx hb dX8_works_49 (by decide) ?_
          refine lv_iconst (v := (4 : Int32)) hx hb dX8_works_50 (by decide) ?_
          refine lv_iload_n hx hb dX8_works_51 rfl (lv_at hl 2 rfl) ?_
          refine lv_imul hx hb dX8_works_52 ?_
          refine lv_iadd hx hb dX8_works_53 ?_
          refine lv_iconst (v := (1 : Int32)) hx hb dX8_works_54 (by decide) ?_
          refine lv_iadd hx hb dX8_works_55 ?_
          refine lv_topi (fun x23 e_x23 => ?_)
          have hq := hq x23 e_x23
          obtain ⟨hi, hq⟩ := hq
          refine z_iald (n := n0) hx hb hw h_o0 hi dX8_works_56 ?_
          refine lv_iconst (v := (2 : Int32)) hx hb dX8_works_57 (by decide) ?_
          refine lv_aload_n hx hb dX8_works_58 rfl (lv_at hl 1 rfl) ?_
          refine lv_iload_n hx hb dX8_works_59 rfl (lv_at hl 0 rfl) ?_
          obtain ⟨hi, hq⟩ := hq
          refine z_iald (n := n0) hx hb hw h_o0 hi dX8_works_60 ?_
          refine lv_imul hx hb dX8_works_61 ?_
          refine lv_iadd hx hb dX8_works_62 ?_
          refine lv_topi (fun x24 e_x24 => ?_)
          have hq := hq x24 e_x24
          refine lv_aload_n hx hb dX8_works_63 rfl (lv_at hl 1 rfl) ?_
          refine lv_iload_n hx hb dX8_works_64 rfl (lv_at hl 2 rfl) ?_
          refine lv_iconst (v := (1 : Int32)) hx hb dX8_works_65 (by decide) ?_
          refine lv_isub hx hb dX8_works_66 ?_
          refine z_csi ⟨hx, hb, hml, hown, hts⟩ hw (kX8_slewOf h_o0 hq) (va_cwS 2 hts gX8_works_X8_slewOf rfl rfl rfl (by decide +kernel) ⟨Nat.le_of_ble_eq_true rfl, Nat.le_of_ble_eq_true rfl⟩) rfl hl.1 rfl (Nat.le_of_ble_eq_true rfl) dX8_works_67 ⟨Nat.zero_le _, Nat.zero_le _⟩ (fun r25 M0 J0 H locs hq hw => ?_)
          obtain ⟨hq, rfl, rfl⟩ := hq
          refine lv_isub hx hb dX8_works_70 ?_
          refine lv_aload_n hx hb dX8_works_71 rfl (lv_at hl 1 rfl) ?_
          refine lv_iload_n hx hb dX8_works_72 rfl (lv_at hl 2 rfl) ?_
          refine lv_iconst (v := (1 : Int32)) hx hb dX8_works_73 (by decide) ?_
          refine lv_iadd hx hb dX8_works_74 ?_
          refine z_csi ⟨hx, hb, hml, hown, hts⟩ hw (kX8_slewOf h_o0 hq) (va_cwS 2 hts gX8_works_X8_slewOf rfl rfl rfl (by decide +kernel) ⟨Nat.le_of_ble_eq_true rfl, Nat.le_of_ble_eq_true rfl⟩) rfl hl.1 rfl (Nat.le_of_ble_eq_true rfl) dX8_works_75 ⟨Nat.zero_le _, Nat.zero_le _⟩ (fun r26 M0 J0 H locs hq hw => ?_)
          obtain ⟨hq, rfl, rfl⟩ := hq
          refine lv_isub hx hb dX8_works_78 ?_
          refine lv_istore_n (lv' := [(3, .int ((x24 - r25) - r26)), (2, .int x22), (0, .ref (ad o0)), (1, .int x7)]) hx hb dX8_works_79 rfl hl (by decide) rfl (fun ls hl => ?_)
          refine lv_aload_n hx hb dX8_works_80 rfl (lv_at hl 2 rfl) ?_
          refine lv_iconst (v := (2 : Int32)) hx hb dX8_works_81 (by decide) ?_
          refine lv_iconst (v := (4 : Int32)) hx hb dX8_works_82 (by decide) ?_
          refine lv_iload_n hx hb dX8_works_83 rfl (lv_at hl 3 rfl) ?_
          refine lv_imul hx hb dX8_works_84 ?_
          refine lv_iadd hx hb dX8_works_85 ?_
          refine lv_iconst (v := (1 : Int32)) hx hb dX8_works_86 (by decide) ?_
          refine lv_iadd hx hb dX8_works_87 ?_
          refine lv_topi (fun x27 e_x27 => ?_)
          have hq := hq x27 e_x27
          refine lv_iload_n hx hb dX8_works_88 rfl (lv_at hl 0 rfl) ?_
          refine lv_sipush (v := (-999 : Int32)) hx hb dX8_works_89 (by decide) ?_
          refine lv_icmp_ge (tgt := 101) hx hb dX8_works_92 (by decide) (fun hc => ?_) (fun hc => ?_)
          · have hq := hq.1 hc
            refine lv_iload_n hx hb dX8_works_101 rfl (lv_at hl 0 rfl) ?_
            refine lv_sipush (v := (999 : Int32)) hx hb dX8_works_102 (by decide) ?_
            refine lv_icmp_le (tgt := 114) hx hb dX8_works_105 (by decide) (fun hc => ?_) (fun hc => ?_)
            · have hq := hq.1 hc
              refine lv_iload_n hx hb dX8_works_114 rfl (lv_at hl 0 rfl) ?_
              obtain ⟨hi, hq⟩ := hq
              refine z_iast (n := n0) hx hb hw h_o0 hi dX8_works_115 (fun H locs hw => ?_)
              obtain ⟨M28, e_M28⟩ : ∃ y : zM, y = va_up M8 o0 (upd (M8 o0) x27.toNatClampNeg ((x24 - r25) - r26)) := ⟨_, rfl⟩
              rw [← e_M28] at hw
              have hq := hq M28 e_M28
              obtain ⟨x29, e_x29⟩ : ∃ y : Int32, y = x7 + (1 : Int32) := ⟨_, rfl⟩
              have hq := hq x29 e_x29
              refine lv_iinc (v := x29) (lv' := [(1, .int x29), (3, .int ((x24 - r25) - r26)), (2, .int x22), (0, .ref (ad o0))]) hx hb dX8_works_116 hl (k := 3) rfl (by rw [e_x29]; rfl) (by decide) rfl (fun ls hl => ?_)
              refine lv_goto (tgt := 33) hx hb dX8_works_119 (by decide) ?_
              exact ih33 x29 M28 _ _ _ hq hw (lv_sub hl [3, 0] rfl)
            · have hq := hq.2 hc
              refine lv_sipush (v := (999 : Int32)) hx hb dX8_works_108 (by decide) ?_
              refine lv_goto (tgt := 115) hx hb dX8_works_111 (by decide) ?_
              obtain ⟨hi, hq⟩ := hq
              refine z_iast (n := n0) hx hb hw h_o0 hi dX8_works_115 (fun H locs hw => ?_)
              obtain ⟨M30, e_M30⟩ : ∃ y : zM, y = va_up M8 o0 (upd (M8 o0) x27.toNatClampNeg (999 : Int32)) := ⟨_, rfl⟩
              rw [← e_M30] at hw
              have hq := hq M30 e_M30
              obtain ⟨x31, e_x31⟩ : ∃ y : Int32, y = x7 + (1 : Int32) := ⟨_, rfl⟩
              have hq := hq x31 e_x31
              refine lv_iinc (v := x31) (lv' := [(1, .int x31), (3, .int ((x24 - r25) - r26)), (2, .int x22), (0, .ref (ad o0))]) hx hb dX8_works_116 hl (k := 3) rfl (by rw [e_x31]; rfl) (by decide) rfl (fun ls hl => ?_)
              refine lv_goto (tgt := 33) hx hb dX8_works_119 (by decide) ?_
              exact ih33 x31 M30 _ _ _ hq hw (lv_sub hl [3, 0] rfl)
          · have hq := hq.2 hc
            refine lv_sipush (v := (-999 : Int32)) hx hb dX8_works_95 (by decide) ?_
            refine lv_goto (tgt := 115) hx hb dX8_works_98 (by decide) ?_
            obtain ⟨hi, hq⟩ := hq
            refine z_iast (n := n0) hx hb hw h_o0 hi dX8_works_115 (fun H locs hw => ?_)
            obtain ⟨M32, e_M32⟩ : ∃ y : zM, y = va_up M8 o0 (upd (M8 o0) x27.toNatClampNeg (-999 : Int32)) := ⟨_, rfl⟩
            rw [← e_M32] at hw
            have hq := hq M32 e_M32
            obtain ⟨x33, e_x33⟩ : ∃ y : Int32, y = x7 + (1 : Int32) := ⟨_, rfl⟩
            have hq := hq x33 e_x33
            refine lv_iinc (v := x33) (lv' := [(1, .int x33), (3, .int ((x24 - r25) - r26)), (2, .int x22), (0, .ref (ad o0))]) hx hb dX8_works_116 hl (k := 3) rfl (by rw [e_x33]; rfl) (by decide) rfl (fun ls hl => ?_)
            refine lv_goto (tgt := 33) hx hb dX8_works_119 (by decide) ?_
            exact ih33 x33 M32 _ _ _ hq hw (lv_sub hl [3, 0] rfl)
    exact lp33 fu33 (0 : Int32) M6 _ _ _ hq hw (lv_sub hl [1, 0] rfl)
  obtain ⟨fu2, hq⟩ := hq
  have lp2 : ∀ (fu2 : Nat) (x3 : Int32) (M4 : zM) (H : Heap) (locs : List Loc) (ls : Array Slot), lpX8_works_2 o0 n0 (fun x5 M6 => ∃ fu33 : Nat, lpX8_works_33 o0 n0 (fun x9 M10 => ∃ fu124 : Nat, lpX8_works_124 o0 n0 (fun x13 M14 => vp_in (1 : Int32) n0 ∧ vp_in (1 : Int32) n0 ∧ (((999 : Int32) ≤ (M14 o0 (1 : Int32).toNatClampNeg)) → ( ∀ x15 : Int32, x15 = ((M14 o0 (1 : Int32).toNatClampNeg) + (0 : Int32)) → vp_in (1 : Int32) n0 ∧ ∀ M16 : zM, M16 = va_up M14 o0 (upd (M14 o0) (1 : Int32).toNatClampNeg x15) → Q M16)) ∧ ((¬ (999 : Int32) ≤ (M14 o0 (1 : Int32).toNatClampNeg)) → ( ∀ x17 : Int32, x17 = ((M14 o0 (1 : Int32).toNatClampNeg) + (1 : Int32)) → vp_in (1 : Int32) n0 ∧ ∀ M18 : zM, M18 = va_up M14 o0 (upd (M14 o0) (1 : Int32).toNatClampNeg x17) → Q M18))) fu124 (0 : Int32) M10) fu33 (0 : Int32) M6) fu2 x3 M4 → zH D Y ad kd RL M4 J A s.heap H locs s → lv_has ls 4 [(0, .ref (ad o0)), (1, .int x3)] → W p l e rmX8_works s m ar below meth c H locs 0 0 QE (F0 m 2 ls []) := by
    intro fu2
    induction fu2 with
    | zero => intro x3 M4 H locs ls hq; exact hq.elim
    | succ fu2 ih2 =>
      intro x3 M4 H locs ls hq hw hl
      unfold lpX8_works_2 at hq
      refine lv_iload_n hx hb dX8_works_2 rfl (lv_at hl 1 rfl) ?_
      refine lv_aload_n hx hb dX8_works_3 rfl (lv_at hl 0 rfl) ?_
      refine lv_iconst (v := (0 : Int32)) hx hb dX8_works_4 (by decide) ?_
      obtain ⟨hi, hq⟩ := hq
      refine z_iald (n := n0) hx hb hw h_o0 hi dX8_works_5 ?_
      refine lv_icmp_ge (tgt := 31) hx hb dX8_works_6 (by decide) (fun hc => ?_) (fun hc => ?_)
      · have hq := hq.1 hc
        exact ex2_31 x3 M4 _ _ _ hq hw (lv_sub hl [0] rfl)
      · have hq := hq.2 hc
        refine lv_aload_n hx hb dX8_works_9 rfl (lv_at hl 0 rfl) ?_
        refine lv_iconst (v := (2 : Int32)) hx hb dX8_works_10 (by decide) ?_
        refine lv_iconst (v := (4 : Int32)) hx hb dX8_works_11 (by decide) ?_
        refine lv_iload_n hx hb dX8_works_12 rfl (lv_at hl 1 rfl) ?_
        refine lv_imul hx hb dX8_works_13 ?_
        refine lv_iadd hx hb dX8_works_14 ?_
        obtain ⟨hi, hq⟩ := hq
        refine z_iald (n := n0) hx hb hw h_o0 hi dX8_works_15 ?_
        refine lv_topi (fun x34 e_x34 => ?_)
        have hq := hq x34 e_x34
        refine lv_iconst (v := (2 : Int32)) hx hb dX8_works_16 (by decide) ?_
        refine lv_icmp_ne (tgt := 25) hx hb dX8_works_17 (by decide) (fun hc => ?_) (fun hc => ?_)
        · have hq := hq.1 hc
          obtain ⟨x35, e_x35⟩ : ∃ y : Int32, y = x3 + (1 : Int32) := ⟨_, rfl⟩
          have hq := hq x35 e_x35
          refine lv_iinc (v := x35) (lv' := [(1, .int x35), (0, .ref (ad o0))]) hx hb dX8_works_25 hl (k := 1) rfl (by rw [e_x35]; rfl) (by decide) rfl (fun ls hl => ?_)
          refine lv_goto (tgt := 2) hx hb dX8_works_28 (by decide) ?_
          exact ih2 x35 M4 _ _ _ hq hw (lv_sub hl [1, 0] rfl)
        · have hq := hq.2 hc
          refine lv_aload_n hx hb dX8_works_20 rfl (lv_at hl 0 rfl) ?_
          refine lv_iload_n hx hb dX8_works_21 rfl (lv_at hl 1 rfl) ?_
          refine z_csv ⟨hx, hb, hml, hown, hts⟩ hw (kX8_settles h_o0 hq) (va_cwS 2 hts gX8_works_X8_settles rfl rfl rfl (by decide +kernel) ⟨Nat.le_of_ble_eq_true rfl, Nat.le_of_ble_eq_true rfl⟩) rfl hl.1 rfl (Nat.le_of_ble_eq_true rfl) dX8_works_22 ⟨Nat.zero_le _, Nat.zero_le _⟩ (fun M36 J0 H locs hq hw => ?_)
          obtain ⟨hq, rfl⟩ := hq
          obtain ⟨x37, e_x37⟩ : ∃ y : Int32, y = x3 + (1 : Int32) := ⟨_, rfl⟩
          have hq := hq x37 e_x37
          refine lv_iinc (v := x37) (lv' := [(1, .int x37), (0, .ref (ad o0))]) hx hb dX8_works_25 hl (k := 1) rfl (by rw [e_x37]; rfl) (by decide) rfl (fun ls hl => ?_)
          refine lv_goto (tgt := 2) hx hb dX8_works_28 (by decide) ?_
          exact ih2 x37 M36 _ _ _ hq hw (lv_sub hl [1, 0] rfl)
  exact lp2 fu2 (0 : Int32) M _ _ _ hq hw (lv_sub hl [1, 0] rfl)
set_option maxRecDepth 20000 in
theorem ggX8_notes_X8_copies : GoodIn wsX8_notes wsX8_copies := goodIn_r _ [7] (by decide +kernel) (by decide +kernel)
set_option maxRecDepth 20000 in
theorem gX8_notes_X8_copies : GoodIn wsX8_notes (va_wsS RX8 135 yX8_copies wsX8_copies) := goodIn_app (goodIn_of _ (by decide +kernel)) ggX8_notes_X8_copies
theorem dX8_notes_0 : decode cX8_notes 0 = .ok (.aload_n 0, 1) := by decide +kernel
theorem dX8_notes_1 : decode cX8_notes 1 = .ok (.getfield 139, 3) := by decide +kernel
theorem dX8_notes_4 : decode cX8_notes 4 = .ok (.bipush 24, 2) := by decide +kernel
theorem dX8_notes_6 : decode cX8_notes 6 = .ok (.if_icmp .ne 43, 3) := by decide +kernel
theorem dX8_notes_9 : decode cX8_notes 9 = .ok (.iconst 0, 1) := by decide +kernel
theorem dX8_notes_10 : decode cX8_notes 10 = .ok (.istore_n 1, 1) := by decide +kernel
theorem dX8_notes_11 : decode cX8_notes 11 = .ok (.iload_n 1, 1) := by decide +kernel
theorem dX8_notes_12 : decode cX8_notes 12 = .ok (.sipush 1150, 3) := by decide +kernel
theorem dX8_notes_15 : decode cX8_notes 15 = .ok (.if_icmp .ge 24, 3) := by decide +kernel
theorem dX8_notes_18 : decode cX8_notes 18 = .ok (.aload_n 0, 1) := by decide +kernel
theorem dX8_notes_19 : decode cX8_notes 19 = .ok (.getfield 34, 3) := by decide +kernel
theorem dX8_notes_22 : decode cX8_notes 22 = .ok (.iload_n 1, 1) := by decide +kernel
theorem dX8_notes_23 : decode cX8_notes 23 = .ok (.aload_n 0, 1) := by decide +kernel
theorem dX8_notes_24 : decode cX8_notes 24 = .ok (.getfield 34, 3) := by decide +kernel
theorem dX8_notes_27 : decode cX8_notes 27 = .ok (.iload_n 1, 1) := by decide +kernel
theorem dX8_notes_28 : decode cX8_notes 28 = .ok (.bipush 50, 2) := by decide +kernel
theorem dX8_notes_30 : decode cX8_notes 30 = .ok (.iadd, 1) := by decide +kernel
theorem dX8_notes_31 : decode cX8_notes 31 = .ok (.iaload, 1) := by decide +kernel
theorem dX8_notes_32 : decode cX8_notes 32 = .ok (.iastore, 1) := by decide +kernel
theorem dX8_notes_33 : decode cX8_notes 33 = .ok (.iinc 1 1, 3) := by decide +kernel
theorem dX8_notes_36 : decode cX8_notes 36 = .ok (.goto (-25), 3) := by decide +kernel
theorem dX8_notes_39 : decode cX8_notes 39 = .ok (.aload_n 0, 1) := by decide +kernel
theorem dX8_notes_40 : decode cX8_notes 40 = .ok (.dup, 1) := by decide +kernel
theorem dX8_notes_41 : decode cX8_notes 41 = .ok (.getfield 139, 3) := by decide +kernel
theorem dX8_notes_44 : decode cX8_notes 44 = .ok (.iconst 1, 1) := by decide +kernel
theorem dX8_notes_45 : decode cX8_notes 45 = .ok (.isub, 1) := by decide +kernel
theorem dX8_notes_46 : decode cX8_notes 46 = .ok (.putfield 139, 3) := by decide +kernel
theorem dX8_notes_49 : decode cX8_notes 49 = .ok (.aload_n 0, 1) := by decide +kernel
theorem dX8_notes_50 : decode cX8_notes 50 = .ok (.getfield 25, 3) := by decide +kernel
theorem dX8_notes_53 : decode cX8_notes 53 = .ok (.iconst 0, 1) := by decide +kernel
theorem dX8_notes_54 : decode cX8_notes 54 = .ok (.aload_n 0, 1) := by decide +kernel
theorem dX8_notes_55 : decode cX8_notes 55 = .ok (.getfield 34, 3) := by decide +kernel
theorem dX8_notes_58 : decode cX8_notes 58 = .ok (.bipush 50, 2) := by decide +kernel
theorem dX8_notes_60 : decode cX8_notes 60 = .ok (.aload_n 0, 1) := by decide +kernel
theorem dX8_notes_61 : decode cX8_notes 61 = .ok (.getfield 139, 3) := by decide +kernel
theorem dX8_notes_64 : decode cX8_notes 64 = .ok (.imul, 1) := by decide +kernel
theorem dX8_notes_65 : decode cX8_notes 65 = .ok (.invokestatic 135, 3) := by decide +kernel
theorem dX8_notes_68 : decode cX8_notes 68 = .ok (.aload_n 0, 1) := by decide +kernel
theorem dX8_notes_69 : decode cX8_notes 69 = .ok (.dup, 1) := by decide +kernel
theorem dX8_notes_70 : decode cX8_notes 70 = .ok (.getfield 139, 3) := by decide +kernel
theorem dX8_notes_73 : decode cX8_notes 73 = .ok (.iconst 1, 1) := by decide +kernel
theorem dX8_notes_74 : decode cX8_notes 74 = .ok (.iadd, 1) := by decide +kernel
theorem dX8_notes_75 : decode cX8_notes 75 = .ok (.putfield 139, 3) := by decide +kernel
theorem dX8_notes_78 : decode cX8_notes 78 = .ok (.return_, 1) := by decide +kernel
def rmX8_notes : Room := { frames := 1, cells := 0, slots := 0, locals := 24 }
def jnX8_notes_49 (o0 : Nat) (Q : zM → Prop) (M11 : zM) : Prop :=
    wX8_copies M11 (o0 + 6) 50 (0 : Int32) (o0 + 9) 1200 ((50 : Int32) * (M11 o0 8)) (fun M12 =>
    ∀ M13 : zM, M13 = va_up M12 o0 (upd (M12 o0) 8 ((M12 o0 8) + (1 : Int32))) →
    Q M13)
def lpX8_notes_11 (o0 : Nat) (K11_39 : Int32 → zM → Prop) : Nat → Int32 → zM → Prop
  | 0, _, _ => False
  | fu11 + 1, x14, M15 =>
    (((1150 : Int32) ≤ x14) → (
    K11_39 x14 M15)) ∧
    ((¬ (1150 : Int32) ≤ x14) → (
    vp_in (x14 + (50 : Int32)) 1200 ∧
    ∀ x19 : Int32, x19 = (M15 (o0 + 9) (x14 + (50 : Int32)).toNatClampNeg) →
    vp_in x14 1200 ∧
    ∀ M20 : zM, M20 = va_up M15 (o0 + 9) (upd (M15 (o0 + 9)) x14.toNatClampNeg x19) →
    ∀ x21 : Int32, x21 = x14 + (1 : Int32) →
    lpX8_notes_11 o0 K11_39 fu11 x21 M20))
def wX8_notes (M : zM) (o0 : Nat) (Q : zM → Prop) : Prop :=
    ((¬ (M o0 8) = (24 : Int32)) → (
    jnX8_notes_49 o0 Q M)) ∧
    (((M o0 8) = (24 : Int32)) → (
    ∃ fu11 : Nat, lpX8_notes_11 o0 (fun x16 M17 =>
    ∀ M18 : zM, M18 = va_up M17 o0 (upd (M17 o0) 8 ((M17 o0 8) - (1 : Int32))) →
    jnX8_notes_49 o0 Q M18) fu11 (0 : Int32) M))
set_option maxHeartbeats 4000000 in
set_option maxRecDepth 100000 in
theorem kX8_notes {l : Launch} {D : va_G} {Y : zY} {ad kd : Nat → Nat} {RL : List Nat} {M : zM} {J : zL} {o0 : Nat} (h_o0 : kd o0 = 8) {Q : zM → Prop} (hq : wX8_notes M o0 Q) : zCv l yX8_notes wsX8_notes rmX8_notes [.ref (ad o0)] D Y ad kd RL M J (fun M' J' => Q M' ∧ J = J') := by
  refine z_metv (cc := cX8_notes) (maxL := 2) (ret := none) (by decide) rfl (Nat.le_of_ble_eq_true rfl) ?_
  intro p e s m below meth c ls A ar QE hQE hx hb hr hml hown hts hlk hw hl
  have hown : s.vm.findClass RX8 = some m.cls := hown
  have hl : lv_has ls 2 [(0, .ref (ad o0))] := hl
  have hC := hw.2.2.2.2.2.1
  have g8 : ∀ w ∈ wsX80, w.before ar s = true := (fun w h => hts w (List.mem_cons_of_mem _ (List.mem_append_right _ h)))
  have q1 := hts _ (List.mem_of_getElem? (i := 1) rfl)
  have q2 := hts _ (List.mem_of_getElem? (i := 2) rfl)
  have q3 := hts _ (List.mem_of_getElem? (i := 3) rfl)
  unfold wX8_notes at hq
  refine lv_aload_n hx hb dX8_notes_0 rfl (lv_at hl 0 rfl) ?_
  refine zg8_acts hx hb g8 hown hw h_o0 q1 dX8_notes_1 ?_
  refine lv_bipush (v := (24 : Int32)) hx hb dX8_notes_4 (by decide) ?_
  have jn49 : ∀ (M11 : zM) (H : Heap) (locs : List Loc) (ls : Array Slot), jnX8_notes_49 o0 Q M11 → zH D Y ad kd RL M11 J A s.heap H locs s → lv_has ls 2 [(0, .ref (ad o0))] → W p l e rmX8_notes s m ar below meth c H locs 0 0 QE (F0 m 49 ls []) := by
    intro M11 H locs ls hq hw hl
    unfold jnX8_notes_49 at hq
    refine lv_aload_n hx hb dX8_notes_49 rfl (lv_at hl 0 rfl) ?_
    refine zg8_now hx hb g8 hown hw h_o0 q3 dX8_notes_50 ?_
    refine lv_iconst (v := (0 : Int32)) hx hb dX8_notes_53 (by decide) ?_
    refine lv_aload_n hx hb dX8_notes_54 rfl (lv_at hl 0 rfl) ?_
    refine zg8_past hx hb g8 hown hw h_o0 q2 dX8_notes_55 ?_
    refine lv_bipush (v := (50 : Int32)) hx hb dX8_notes_58 (by decide) ?_
    refine lv_aload_n hx hb dX8_notes_60 rfl (lv_at hl 0 rfl) ?_
    refine zg8_acts hx hb g8 hown hw h_o0 q1 dX8_notes_61 ?_
    refine lv_imul hx hb dX8_notes_64 ?_
    refine z_csv ⟨hx, hb, hml, hown, hts⟩ hw (kX8_copies (zk_8_6 hC h_o0) (zk_8_9 hC h_o0) hq) (va_cwS 4 hts gX8_notes_X8_copies rfl rfl rfl (by decide +kernel) ⟨Nat.le_of_ble_eq_true rfl, Nat.le_of_ble_eq_true rfl⟩) rfl hl.1 rfl (Nat.le_of_ble_eq_true rfl) dX8_notes_65 ⟨Nat.zero_le _, Nat.zero_le _⟩ (fun M12 J0 H locs hq hw => ?_)
    obtain ⟨hq, rfl⟩ := hq
    refine lv_aload_n hx hb dX8_notes_68 rfl (lv_at hl 0 rfl) ?_
    refine lv_dup hx hb dX8_notes_69 rfl ?_
    refine zg8_acts hx hb g8 hown hw h_o0 q1 dX8_notes_70 ?_
    refine lv_iconst (v := (1 : Int32)) hx hb dX8_notes_73 (by decide) ?_
    refine lv_iadd hx hb dX8_notes_74 ?_
    refine zp8_acts hx hb g8 hown hw h_o0 q1 dX8_notes_75 (fun H locs hw => ?_)
    obtain ⟨M13, e_M13⟩ : ∃ y : zM, y = va_up M12 o0 (upd (M12 o0) 8 ((M12 o0 8) + (1 : Int32))) := ⟨_, rfl⟩
    rw [← e_M13] at hw
    have hq := hq M13 e_M13
    exact z_vret hQE hx hb hr hlk hw dX8_notes_78 ⟨hq, rfl⟩
  refine lv_icmp_ne (tgt := 49) hx hb dX8_notes_6 (by decide) (fun hc => ?_) (fun hc => ?_)
  · have hq := hq.1 hc
    exact jn49 M _ _ _ hq hw (lv_sub hl [0] rfl)
  · have hq := hq.2 hc
    refine lv_iconst (v := (0 : Int32)) hx hb dX8_notes_9 (by decide) ?_
    refine lv_istore_n (lv' := [(1, .int (0 : Int32)), (0, .ref (ad o0))]) hx hb dX8_notes_10 rfl hl (by decide) rfl (fun ls hl => ?_)
    have ex11_39 : ∀ (x16 : Int32) (M17 : zM) (H : Heap) (locs : List Loc) (ls : Array Slot), (∀ M18 : zM, M18 = va_up M17 o0 (upd (M17 o0) 8 ((M17 o0 8) - (1 : Int32))) → jnX8_notes_49 o0 Q M18) → zH D Y ad kd RL M17 J A s.heap H locs s → lv_has ls 2 [(0, .ref (ad o0))] → W p l e rmX8_notes s m ar below meth c H locs 0 0 QE (F0 m 39 ls []) := by
      intro x16 M17 H locs ls hq hw hl
      refine lv_aload_n hx hb dX8_notes_39 rfl (lv_at hl 0 rfl) ?_
      refine lv_dup hx hb dX8_notes_40 rfl ?_
      refine zg8_acts hx hb g8 hown hw h_o0 q1 dX8_notes_41 ?_
      refine lv_iconst (v := (1 : Int32)) hx hb dX8_notes_44 (by decide) ?_
      refine lv_isub hx hb dX8_notes_45 ?_
      refine zp8_acts hx hb g8 hown hw h_o0 q1 dX8_notes_46 (fun H locs hw => ?_)
      obtain ⟨M18, e_M18⟩ : ∃ y : zM, y = va_up M17 o0 (upd (M17 o0) 8 ((M17 o0 8) - (1 : Int32))) := ⟨_, rfl⟩
      rw [← e_M18] at hw
      have hq := hq M18 e_M18
      exact jn49 M18 _ _ _ hq hw (lv_sub hl [0] rfl)
    obtain ⟨fu11, hq⟩ := hq
    have lp11 : ∀ (fu11 : Nat) (x14 : Int32) (M15 : zM) (H : Heap) (locs : List Loc) (ls : Array Slot), lpX8_notes_11 o0 (fun x16 M17 => ∀ M18 : zM, M18 = va_up M17 o0 (upd (M17 o0) 8 ((M17 o0 8) - (1 : Int32))) → jnX8_notes_49 o0 Q M18) fu11 x14 M15 → zH D Y ad kd RL M15 J A s.heap H locs s → lv_has ls 2 [(0, .ref (ad o0)), (1, .int x14)] → W p l e rmX8_notes s m ar below meth c H locs 0 0 QE (F0 m 11 ls []) := by
      intro fu11
      induction fu11 with
      | zero => intro x14 M15 H locs ls hq; exact hq.elim
      | succ fu11 ih11 =>
        intro x14 M15 H locs ls hq hw hl
        unfold lpX8_notes_11 at hq
        refine lv_iload_n hx hb dX8_notes_11 rfl (lv_at hl 1 rfl) ?_
        refine lv_sipush (v := (1150 : Int32)) hx hb dX8_notes_12 (by decide) ?_
        refine lv_icmp_ge (tgt := 39) hx hb dX8_notes_15 (by decide) (fun hc => ?_) (fun hc => ?_)
        · have hq := hq.1 hc
          exact ex11_39 x14 M15 _ _ _ hq hw (lv_sub hl [0] rfl)
        · have hq := hq.2 hc
          refine lv_aload_n hx hb dX8_notes_18 rfl (lv_at hl 0 rfl) ?_
          refine zg8_past hx hb g8 hown hw h_o0 q2 dX8_notes_19 ?_
          refine lv_iload_n hx hb dX8_notes_22 rfl (lv_at hl 1 rfl) ?_
          refine lv_aload_n hx hb dX8_notes_23 rfl (lv_at hl 0 rfl) ?_
          refine zg8_past hx hb g8 hown hw h_o0 q2 dX8_notes_24 ?_
          refine lv_iload_n hx hb dX8_notes_27 rfl (lv_at hl 1 rfl) ?_
          refine lv_bipush (v := (50 : Int32)) hx hb dX8_notes_28 (by decide) ?_
          refine lv_iadd hx hb dX8_notes_30 ?_
          obtain ⟨hi, hq⟩ := hq
          refine z_iald (n := 1200) hx hb hw (zk_8_9 hC h_o0) hi dX8_notes_31 ?_
          refine lv_topi (fun x19 e_x19 => ?_)
          have hq := hq x19 e_x19
          obtain ⟨hi, hq⟩ := hq
          refine z_iast (n := 1200) hx hb hw (zk_8_9 hC h_o0) hi dX8_notes_32 (fun H locs hw => ?_)
          obtain ⟨M20, e_M20⟩ : ∃ y : zM, y = va_up M15 (o0 + 9) (upd (M15 (o0 + 9)) x14.toNatClampNeg x19) := ⟨_, rfl⟩
          rw [← e_M20] at hw
          have hq := hq M20 e_M20
          obtain ⟨x21, e_x21⟩ : ∃ y : Int32, y = x14 + (1 : Int32) := ⟨_, rfl⟩
          have hq := hq x21 e_x21
          refine lv_iinc (v := x21) (lv' := [(1, .int x21), (0, .ref (ad o0))]) hx hb dX8_notes_33 hl (k := 1) rfl (by rw [e_x21]; rfl) (by decide) rfl (fun ls hl => ?_)
          refine lv_goto (tgt := 11) hx hb dX8_notes_36 (by decide) ?_
          exact ih11 x21 M20 _ _ _ hq hw (lv_sub hl [1, 0] rfl)
    exact lp11 fu11 (0 : Int32) M _ _ _ hq hw (lv_sub hl [1, 0] rfl)
set_option maxRecDepth 20000 in
theorem ggX8_lay_X8_isPeg : GoodIn wsX8_lay wsX8_isPeg := goodIn_r _ [8, 2, 9, 10, 7, 11, 27, 28, 29, 30, 31, 32, 33, 34, 35, 36, 37, 38, 39, 40, 41, 42, 43, 44, 45, 46, 47, 48, 49, 50, 51, 52] (by decide +kernel) (by decide +kernel)
set_option maxRecDepth 20000 in
theorem gX8_lay_X8_isPeg : GoodIn wsX8_lay (wsV RX8 163 RX8 yX8_isPeg wsX8_isPeg) := goodIn_app (goodIn_of _ (by decide +kernel)) ggX8_lay_X8_isPeg
set_option maxRecDepth 20000 in
theorem ggX8_lay_X8_in : GoodIn wsX8_lay wsX8_in := goodIn_r _ [11] (by decide +kernel) (by decide +kernel)
set_option maxRecDepth 20000 in
theorem gX8_lay_X8_in : GoodIn wsX8_lay (va_wsS RX8 59 yX8_in wsX8_in) := goodIn_app (goodIn_of _ (by decide +kernel)) ggX8_lay_X8_in
set_option maxRecDepth 20000 in
theorem ggX8_lay_X8_size : GoodIn wsX8_lay wsX8_size := goodIn_r _ [14] (by decide +kernel) (by decide +kernel)
set_option maxRecDepth 20000 in
theorem gX8_lay_X8_size : GoodIn wsX8_lay (va_wsS RX8 153 yX8_size wsX8_size) := goodIn_app (goodIn_of _ (by decide +kernel)) ggX8_lay_X8_size
set_option maxRecDepth 20000 in
theorem ggX8_lay_X8_reach : GoodIn wsX8_lay wsX8_reach := goodIn_r _ [17] (by decide +kernel) (by decide +kernel)
set_option maxRecDepth 20000 in
theorem gX8_lay_X8_reach : GoodIn wsX8_lay (va_wsS RX8 166 yX8_reach wsX8_reach) := goodIn_app (goodIn_of _ (by decide +kernel)) ggX8_lay_X8_reach
set_option maxRecDepth 20000 in
theorem ggX8_lay_X8_notes : GoodIn wsX8_lay wsX8_notes := goodIn_r _ [21, 22, 23, 2, 24, 25, 7, 26, 27, 28, 29, 30, 31, 32, 33, 34, 35, 36, 37, 38, 39, 40, 41, 42, 43, 44, 45, 46, 47, 48, 49, 50, 51, 52] (by decide +kernel) (by decide +kernel)
set_option maxRecDepth 20000 in
theorem gX8_lay_X8_notes : GoodIn wsX8_lay (wsV RX8 170 RX8 yX8_notes wsX8_notes) := goodIn_app (goodIn_of _ (by decide +kernel)) ggX8_lay_X8_notes
theorem dX8_lay_0 : decode cX8_lay 0 = .ok (.aload_n 0, 1) := by decide +kernel
theorem dX8_lay_1 : decode cX8_lay 1 = .ok (.iload_n 1, 1) := by decide +kernel
theorem dX8_lay_2 : decode cX8_lay 2 = .ok (.invokevirtual 163, 3) := by decide +kernel
theorem dX8_lay_5 : decode cX8_lay 5 = .ok (.ifCond .eq 13, 3) := by decide +kernel
theorem dX8_lay_8 : decode cX8_lay 8 = .ok (.iload_n 2, 1) := by decide +kernel
theorem dX8_lay_9 : decode cX8_lay 9 = .ok (.bipush (-3), 2) := by decide +kernel
theorem dX8_lay_11 : decode cX8_lay 11 = .ok (.iconst 3, 1) := by decide +kernel
theorem dX8_lay_12 : decode cX8_lay 12 = .ok (.invokestatic 59, 3) := by decide +kernel
theorem dX8_lay_15 : decode cX8_lay 15 = .ok (.ifCond .ne 6, 3) := by decide +kernel
theorem dX8_lay_18 : decode cX8_lay 18 = .ok (.ldc 67, 2) := by decide +kernel
theorem dX8_lay_20 : decode cX8_lay 20 = .ok (.ireturn, 1) := by decide +kernel
theorem dX8_lay_21 : decode cX8_lay 21 = .ok (.iload_n 2, 1) := by decide +kernel
theorem dX8_lay_22 : decode cX8_lay 22 = .ok (.invokestatic 153, 3) := by decide +kernel
theorem dX8_lay_25 : decode cX8_lay 25 = .ok (.aload_n 0, 1) := by decide +kernel
theorem dX8_lay_26 : decode cX8_lay 26 = .ok (.getfield 25, 3) := by decide +kernel
theorem dX8_lay_29 : decode cX8_lay 29 = .ok (.iload_n 1, 1) := by decide +kernel
theorem dX8_lay_30 : decode cX8_lay 30 = .ok (.invokestatic 166, 3) := by decide +kernel
theorem dX8_lay_33 : decode cX8_lay 33 = .ok (.if_icmp .le 6, 3) := by decide +kernel
theorem dX8_lay_36 : decode cX8_lay 36 = .ok (.ldc 169, 2) := by decide +kernel
theorem dX8_lay_38 : decode cX8_lay 38 = .ok (.ireturn, 1) := by decide +kernel
theorem dX8_lay_39 : decode cX8_lay 39 = .ok (.aload_n 0, 1) := by decide +kernel
theorem dX8_lay_40 : decode cX8_lay 40 = .ok (.invokevirtual 170, 3) := by decide +kernel
theorem dX8_lay_43 : decode cX8_lay 43 = .ok (.aload_n 0, 1) := by decide +kernel
theorem dX8_lay_44 : decode cX8_lay 44 = .ok (.getfield 25, 3) := by decide +kernel
theorem dX8_lay_47 : decode cX8_lay 47 = .ok (.iconst 2, 1) := by decide +kernel
theorem dX8_lay_48 : decode cX8_lay 48 = .ok (.iconst 4, 1) := by decide +kernel
theorem dX8_lay_49 : decode cX8_lay 49 = .ok (.iload_n 1, 1) := by decide +kernel
theorem dX8_lay_50 : decode cX8_lay 50 = .ok (.imul, 1) := by decide +kernel
theorem dX8_lay_51 : decode cX8_lay 51 = .ok (.iadd, 1) := by decide +kernel
theorem dX8_lay_52 : decode cX8_lay 52 = .ok (.iconst 3, 1) := by decide +kernel
theorem dX8_lay_53 : decode cX8_lay 53 = .ok (.iadd, 1) := by decide +kernel
theorem dX8_lay_54 : decode cX8_lay 54 = .ok (.iaload, 1) := by decide +kernel
theorem dX8_lay_55 : decode cX8_lay 55 = .ok (.istore_n 3, 1) := by decide +kernel
theorem dX8_lay_56 : decode cX8_lay 56 = .ok (.aload_n 0, 1) := by decide +kernel
theorem dX8_lay_57 : decode cX8_lay 57 = .ok (.getfield 25, 3) := by decide +kernel
theorem dX8_lay_60 : decode cX8_lay 60 = .ok (.iconst 2, 1) := by decide +kernel
theorem dX8_lay_61 : decode cX8_lay 61 = .ok (.iconst 4, 1) := by decide +kernel
theorem dX8_lay_62 : decode cX8_lay 62 = .ok (.iload_n 1, 1) := by decide +kernel
theorem dX8_lay_63 : decode cX8_lay 63 = .ok (.imul, 1) := by decide +kernel
theorem dX8_lay_64 : decode cX8_lay 64 = .ok (.iadd, 1) := by decide +kernel
theorem dX8_lay_65 : decode cX8_lay 65 = .ok (.iconst 3, 1) := by decide +kernel
theorem dX8_lay_66 : decode cX8_lay 66 = .ok (.iadd, 1) := by decide +kernel
theorem dX8_lay_67 : decode cX8_lay 67 = .ok (.iload_n 2, 1) := by decide +kernel
theorem dX8_lay_68 : decode cX8_lay 68 = .ok (.iastore, 1) := by decide +kernel
theorem dX8_lay_69 : decode cX8_lay 69 = .ok (.iload_n 3, 1) := by decide +kernel
theorem dX8_lay_70 : decode cX8_lay 70 = .ok (.ireturn, 1) := by decide +kernel
def rmX8_lay : Room := { frames := 2, cells := 0, slots := 0, locals := 45 }
def wX8_lay (M : zM) (o0 : Nat) (x1 : Int32) (x2 : Int32) (Q : Int32 → zM → Prop) : Prop :=
    wX8_isPeg M o0 x1 (fun r5 =>
    ((r5 = 0) → (
    Q (-1000001 : Int32) M)) ∧
    ((¬ r5 = 0) → (
    wX8_in M x2 (-3 : Int32) (3 : Int32) (fun r6 =>
    ((¬ r6 = 0) → (
    wX8_size M x2 (fun r7 =>
    wX8_reach M (o0 + 6) 50 x1 (fun r8 =>
    ((r7 ≤ r8) → (
    wX8_notes M o0 (fun M9 =>
    ∀ x10 : Int32, x10 = (((2 : Int32) + ((4 : Int32) * x1)) + (3 : Int32)) →
    vp_in x10 50 ∧
    ∀ x11 : Int32, x11 = (((2 : Int32) + ((4 : Int32) * x1)) + (3 : Int32)) →
    vp_in x11 50 ∧
    ∀ M12 : zM, M12 = va_up M9 (o0 + 6) (upd (M9 (o0 + 6)) x11.toNatClampNeg x2) →
    Q (M9 (o0 + 6) x10.toNatClampNeg) M12))) ∧
    ((¬ r7 ≤ r8) → (
    Q (-1000002 : Int32) M)))))) ∧
    ((r6 = 0) → (
    Q (-1000001 : Int32) M))))))
set_option maxHeartbeats 4000000 in
set_option maxRecDepth 100000 in
theorem kX8_lay {l : Launch} {D : va_G} {Y : zY} {ad kd : Nat → Nat} {RL : List Nat} {M : zM} {J : zL} {o0 : Nat} {x1 : Int32} {x2 : Int32} (h_o0 : kd o0 = 8) {Q : Int32 → zM → Prop} (hq : wX8_lay M o0 x1 x2 Q) : zCi l yX8_lay wsX8_lay rmX8_lay [.ref (ad o0), .int x1, .int x2] D Y ad kd RL M J (fun r M' J' => Q r M' ∧ J = J') := by
  refine z_meti (cc := cX8_lay) (maxL := 4) (ret := (some .int)) (by decide) rfl (Nat.le_of_ble_eq_true rfl) ?_
  intro p e s m below meth c ls A ar QE hQE hx hb hr hml hown hts hlk hw hl
  have hown : s.vm.findClass RX8 = some m.cls := hown
  have hl : lv_has ls 4 [(0, .ref (ad o0)), (1, .int x1), (2, .int x2)] := hl
  have hC := hw.2.2.2.2.2.1
  have g8 : ∀ w ∈ wsX80, w.before ar s = true := (fun w h => hts w (List.mem_cons_of_mem _ (List.mem_append_right _ h)))
  have q1 := hts _ (List.mem_of_getElem? (i := 1) rfl)
  have q2 := hts _ (List.mem_of_getElem? (i := 2) rfl)
  have q3 := hts _ (List.mem_of_getElem? (i := 3) rfl)
  unfold wX8_lay at hq
  refine lv_aload_n hx hb dX8_lay_0 rfl (lv_at hl 0 rfl) ?_
  refine lv_iload_n hx hb dX8_lay_1 rfl (lv_at hl 1 rfl) ?_
  refine z_cvi ⟨hx, hb, hml, hown, hts⟩ hw h_o0 (kX8_isPeg h_o0 hq) (by decide) rfl (cwV 1 hts gX8_lay_X8_isPeg rfl rfl rfl (by decide +kernel) ⟨Nat.le_of_ble_eq_true rfl, Nat.le_of_ble_eq_true rfl⟩) rfl hl.1 rfl (Nat.le_of_ble_eq_true rfl) dX8_lay_2 ⟨Nat.zero_le _, Nat.zero_le _⟩ (fun r5 M0 J0 H locs hq hw => ?_)
  obtain ⟨hq, rfl, rfl⟩ := hq
  refine lv_if_eq (tgt := 18) hx hb dX8_lay_5 (by decide) (fun hc => ?_) (fun hc => ?_)
  · have hq := hq.1 hc
    refine lv_ldc (v := (-1000001 : Int32)) hx hb hown q1 dX8_lay_18 ?_
    exact z_iret hQE hx hb hr hlk hw dX8_lay_20 ⟨hq, rfl⟩
  · have hq := hq.2 hc
    refine lv_iload_n hx hb dX8_lay_8 rfl (lv_at hl 2 rfl) ?_
    refine lv_bipush (v := (-3 : Int32)) hx hb dX8_lay_9 (by decide) ?_
    refine lv_iconst (v := (3 : Int32)) hx hb dX8_lay_11 (by decide) ?_
    refine z_csi ⟨hx, hb, hml, hown, hts⟩ hw (kX8_in  hq) (va_cwS 3 hts gX8_lay_X8_in rfl rfl rfl (by decide +kernel) ⟨Nat.le_of_ble_eq_true rfl, Nat.le_of_ble_eq_true rfl⟩) rfl hl.1 rfl (Nat.le_of_ble_eq_true rfl) dX8_lay_12 ⟨Nat.zero_le _, Nat.zero_le _⟩ (fun r6 M0 J0 H locs hq hw => ?_)
    obtain ⟨hq, rfl, rfl⟩ := hq
    refine lv_if_ne (tgt := 21) hx hb dX8_lay_15 (by decide) (fun hc => ?_) (fun hc => ?_)
    · have hq := hq.1 hc
      refine lv_iload_n hx hb dX8_lay_21 rfl (lv_at hl 2 rfl) ?_
      refine z_csi ⟨hx, hb, hml, hown, hts⟩ hw (kX8_size  hq) (va_cwS 1 hts gX8_lay_X8_size rfl rfl rfl (by decide +kernel) ⟨Nat.le_of_ble_eq_true rfl, Nat.le_of_ble_eq_true rfl⟩) rfl hl.1 rfl (Nat.le_of_ble_eq_true rfl) dX8_lay_22 ⟨Nat.zero_le _, Nat.zero_le _⟩ (fun r7 M0 J0 H locs hq hw => ?_)
      obtain ⟨hq, rfl, rfl⟩ := hq
      refine lv_aload_n hx hb dX8_lay_25 rfl (lv_at hl 0 rfl) ?_
      refine zg8_now hx hb g8 hown hw h_o0 q2 dX8_lay_26 ?_
      refine lv_iload_n hx hb dX8_lay_29 rfl (lv_at hl 1 rfl) ?_
      refine z_csi ⟨hx, hb, hml, hown, hts⟩ hw (kX8_reach (zk_8_6 hC h_o0) hq) (va_cwS 2 hts gX8_lay_X8_reach rfl rfl rfl (by decide +kernel) ⟨Nat.le_of_ble_eq_true rfl, Nat.le_of_ble_eq_true rfl⟩) rfl hl.1 rfl (Nat.le_of_ble_eq_true rfl) dX8_lay_30 ⟨Nat.zero_le _, Nat.zero_le _⟩ (fun r8 M0 J0 H locs hq hw => ?_)
      obtain ⟨hq, rfl, rfl⟩ := hq
      refine lv_icmp_le (tgt := 39) hx hb dX8_lay_33 (by decide) (fun hc => ?_) (fun hc => ?_)
      · have hq := hq.1 hc
        refine lv_aload_n hx hb dX8_lay_39 rfl (lv_at hl 0 rfl) ?_
        refine z_cvv ⟨hx, hb, hml, hown, hts⟩ hw h_o0 (kX8_notes h_o0 hq) (by decide) rfl (cwV 0 hts gX8_lay_X8_notes rfl rfl rfl (by decide +kernel) ⟨Nat.le_of_ble_eq_true rfl, Nat.le_of_ble_eq_true rfl⟩) rfl hl.1 rfl (Nat.le_of_ble_eq_true rfl) dX8_lay_40 ⟨Nat.zero_le _, Nat.zero_le _⟩ (fun M9 J0 H locs hq hw => ?_)
        obtain ⟨hq, rfl⟩ := hq
        refine lv_aload_n hx hb dX8_lay_43 rfl (lv_at hl 0 rfl) ?_
        refine zg8_now hx hb g8 hown hw h_o0 q2 dX8_lay_44 ?_
        refine lv_iconst (v := (2 : Int32)) hx hb dX8_lay_47 (by decide) ?_
        refine lv_iconst (v := (4 : Int32)) hx hb dX8_lay_48 (by decide) ?_
        refine lv_iload_n hx hb dX8_lay_49 rfl (lv_at hl 1 rfl) ?_
        refine lv_imul hx hb dX8_lay_50 ?_
        refine lv_iadd hx hb dX8_lay_51 ?_
        refine lv_iconst (v := (3 : Int32)) hx hb dX8_lay_52 (by decide) ?_
        refine lv_iadd hx hb dX8_lay_53 ?_
        refine lv_topi (fun x10 e_x10 => ?_)
        have hq := hq x10 e_x10
        obtain ⟨hi, hq⟩ := hq
        refine z_iald (n := 50) hx hb hw (zk_8_6 hC h_o0) hi dX8_lay_54 ?_
        refine lv_istore_n (lv' := [(3, .int (M9 (o0 + 6) x10.toNatClampNeg)), (0, .ref (ad o0)), (1, .int x1), (2, .int x2)]) hx hb dX8_lay_55 rfl hl (by decide) rfl (fun ls hl => ?_)
        refine lv_aload_n hx hb dX8_lay_56 rfl (lv_at hl 1 rfl) ?_
        refine zg8_now hx hb g8 hown hw h_o0 q2 dX8_lay_57 ?_
        refine lv_iconst (v := (2 : Int32)) hx hb dX8_lay_60 (by decide) ?_
        refine lv_iconst (v := (4 : Int32)) hx hb dX8_lay_61 (by decide) ?_
        refine lv_iload_n hx hb dX8_lay_62 rfl (lv_at hl 2 rfl) ?_
        refine lv_imul hx hb dX8_lay_63 ?_
        refine lv_iadd hx hb dX8_lay_64 ?_
        refine lv_iconst (v := (3 : Int32)) hx hb dX8_lay_65 (by decide) ?_
        refine lv_iadd hx hb dX8_lay_66 ?_
        refine lv_topi (fun x11 e_x11 => ?_)
        have hq := hq x11 e_x11
        refine lv_iload_n hx hb dX8_lay_67 rfl (lv_at hl 3 rfl) ?_
        obtain ⟨hi, hq⟩ := hq
        refine z_iast (n := 50) hx hb hw (zk_8_6 hC h_o0) hi dX8_lay_68 (fun H locs hw => ?_)
        obtain ⟨M12, e_M12⟩ : ∃ y : zM, y = va_up M9 (o0 + 6) (upd (M9 (o0 + 6)) x11.toNatClampNeg x2) := ⟨_, rfl⟩
        rw [← e_M12] at hw
        have hq := hq M12 e_M12
        refine lv_iload_n hx hb dX8_lay_69 rfl (lv_at hl 0 rfl) ?_
        exact z_iret hQE hx hb hr hlk hw dX8_lay_70 ⟨hq, rfl⟩
      · have hq := hq.2 hc
        refine lv_ldc (v := (-1000002 : Int32)) hx hb hown q3 dX8_lay_36 ?_
        exact z_iret hQE hx hb hr hlk hw dX8_lay_38 ⟨hq, rfl⟩
    · have hq := hq.2 hc
      refine lv_ldc (v := (-1000001 : Int32)) hx hb hown q1 dX8_lay_18 ?_
      exact z_iret hQE hx hb hr hlk hw dX8_lay_20 ⟨hq, rfl⟩
set_option maxRecDepth 20000 in
theorem ggX8_work_X8_isRail : GoodIn wsX8_work wsX8_isRail := goodIn_r _ [7, 2, 35, 36, 37, 38, 39, 40, 41, 42, 43, 44, 45, 46, 47, 48, 49, 50, 51, 52, 53, 54, 55, 56, 57, 58, 59, 60] (by decide +kernel) (by decide +kernel)
set_option maxRecDepth 20000 in
theorem gX8_work_X8_isRail : GoodIn wsX8_work (wsV RX8 173 RX8 yX8_isRail wsX8_isRail) := goodIn_app (goodIn_of _ (by decide +kernel)) ggX8_work_X8_isRail
set_option maxRecDepth 20000 in
theorem ggX8_work_X8_notes : GoodIn wsX8_work wsX8_notes := goodIn_r _ [11, 12, 13, 2, 14, 15, 6, 16, 35, 36, 37, 38, 39, 40, 41, 42, 43, 44, 45, 46, 47, 48, 49, 50, 51, 52, 53, 54, 55, 56, 57, 58, 59, 60] (by decide +kernel) (by decide +kernel)
set_option maxRecDepth 20000 in
theorem gX8_work_X8_notes : GoodIn wsX8_work (wsV RX8 170 RX8 yX8_notes wsX8_notes) := goodIn_app (goodIn_of _ (by decide +kernel)) ggX8_work_X8_notes
set_option maxRecDepth 20000 in
theorem ggX8_work_X8_moved : GoodIn wsX8_work wsX8_moved := goodIn_r _ [19, 20, 21, 6, 22] (by decide +kernel) (by decide +kernel)
set_option maxRecDepth 20000 in
theorem gX8_work_X8_moved : GoodIn wsX8_work (va_wsS RX8 176 yX8_moved wsX8_moved) := goodIn_app (goodIn_of _ (by decide +kernel)) ggX8_work_X8_moved
set_option maxRecDepth 20000 in
theorem ggX8_work_X8_works : GoodIn wsX8_work wsX8_works := goodIn_r _ [25, 26, 27, 6, 28, 29, 30, 31, 32, 33, 34] (by decide +kernel) (by decide +kernel)
set_option maxRecDepth 20000 in
theorem gX8_work_X8_works : GoodIn wsX8_work (va_wsS RX8 180 yX8_works wsX8_works) := goodIn_app (goodIn_of _ (by decide +kernel)) ggX8_work_X8_works
theorem dX8_work_0 : decode cX8_work 0 = .ok (.aload_n 0, 1) := by decide +kernel
theorem dX8_work_1 : decode cX8_work 1 = .ok (.invokevirtual 173, 3) := by decide +kernel
theorem dX8_work_4 : decode cX8_work 4 = .ok (.ifCond .ne 6, 3) := by decide +kernel
theorem dX8_work_7 : decode cX8_work 7 = .ok (.ldc 169, 2) := by decide +kernel
theorem dX8_work_9 : decode cX8_work 9 = .ok (.ireturn, 1) := by decide +kernel
theorem dX8_work_10 : decode cX8_work 10 = .ok (.aload_n 0, 1) := by decide +kernel
theorem dX8_work_11 : decode cX8_work 11 = .ok (.invokevirtual 170, 3) := by decide +kernel
theorem dX8_work_14 : decode cX8_work 14 = .ok (.aload_n 0, 1) := by decide +kernel
theorem dX8_work_15 : decode cX8_work 15 = .ok (.getfield 25, 3) := by decide +kernel
theorem dX8_work_18 : decode cX8_work 18 = .ok (.invokestatic 176, 3) := by decide +kernel
theorem dX8_work_21 : decode cX8_work 21 = .ok (.istore_n 1, 1) := by decide +kernel
theorem dX8_work_22 : decode cX8_work 22 = .ok (.aload_n 0, 1) := by decide +kernel
theorem dX8_work_23 : decode cX8_work 23 = .ok (.getfield 25, 3) := by decide +kernel
theorem dX8_work_26 : decode cX8_work 26 = .ok (.invokestatic 180, 3) := by decide +kernel
theorem dX8_work_29 : decode cX8_work 29 = .ok (.iload_n 1, 1) := by decide +kernel
theorem dX8_work_30 : decode cX8_work 30 = .ok (.ireturn, 1) := by decide +kernel
def rmX8_work : Room := { frames := 3, cells := 0, slots := 0, locals := 66 }
def wX8_work (M : zM) (o0 : Nat) (Q : Int32 → zM → Prop) : Prop :=
    wX8_isRail M o0 (fun r3 =>
    ((¬ r3 = 0) → (
    wX8_notes M o0 (fun M4 =>
    wX8_moved M4 (o0 + 6) 50 (fun r5 =>
    wX8_works M4 (o0 + 6) 50 (fun M6 =>
    Q r5 M6))))) ∧
    ((r3 = 0) → (
    Q (-1000002 : Int32) M)))
set_option maxHeartbeats 4000000 in
set_option maxRecDepth 100000 in
theorem kX8_work {l : Launch} {D : va_G} {Y : zY} {ad kd : Nat → Nat} {RL : List Nat} {M : zM} {J : zL} {o0 : Nat} (h_o0 : kd o0 = 8) {Q : Int32 → zM → Prop} (hq : wX8_work M o0 Q) : zCi l yX8_work wsX8_work rmX8_work [.ref (ad o0)] D Y ad kd RL M J (fun r M' J' => Q r M' ∧ J = J') := by
  refine z_meti (cc := cX8_work) (maxL := 2) (ret := (some .int)) (by decide) rfl (Nat.le_of_ble_eq_true rfl) ?_
  intro p e s m below meth c ls A ar QE hQE hx hb hr hml hown hts hlk hw hl
  have hown : s.vm.findClass RX8 = some m.cls := hown
  have hl : lv_has ls 2 [(0, .ref (ad o0))] := hl
  have hC := hw.2.2.2.2.2.1
  have g8 : ∀ w ∈ wsX80, w.before ar s = true := (fun w h => hts w (List.mem_cons_of_mem _ (List.mem_append_right _ h)))
  have q1 := hts _ (List.mem_of_getElem? (i := 1) rfl)
  have q2 := hts _ (List.mem_of_getElem? (i := 2) rfl)
  unfold wX8_work at hq
  refine lv_aload_n hx hb dX8_work_0 rfl (lv_at hl 0 rfl) ?_
  refine z_cvi ⟨hx, hb, hml, hown, hts⟩ hw h_o0 (kX8_isRail h_o0 hq) (by decide) rfl (cwV 0 hts gX8_work_X8_isRail rfl rfl rfl (by decide +kernel) ⟨Nat.le_of_ble_eq_true rfl, Nat.le_of_ble_eq_true rfl⟩) rfl hl.1 rfl (Nat.le_of_ble_eq_true rfl) dX8_work_1 ⟨Nat.zero_le _, Nat.zero_le _⟩ (fun r3 M0 J0 H locs hq hw => ?_)
  obtain ⟨hq, rfl, rfl⟩ := hq
  refine lv_if_ne (tgt := 10) hx hb dX8_work_4 (by decide) (fun hc => ?_) (fun hc => ?_)
  · have hq := hq.1 hc
    refine lv_aload_n hx hb dX8_work_10 rfl (lv_at hl 0 rfl) ?_
    refine z_cvv ⟨hx, hb, hml, hown, hts⟩ hw h_o0 (kX8_notes h_o0 hq) (by decide) rfl (cwV 0 hts gX8_work_X8_notes rfl rfl rfl (by decide +kernel) ⟨Nat.le_of_ble_eq_true rfl, Nat.le_of_ble_eq_true rfl⟩) rfl hl.1 rfl (Nat.le_of_ble_eq_true rfl) dX8_work_11 ⟨Nat.zero_le _, Nat.zero_le _⟩ (fun M4 J0 H locs hq hw => ?_)
    obtain ⟨hq, rfl⟩ := hq
    refine lv_aload_n hx hb dX8_work_14 rfl (lv_at hl 0 rfl) ?_
    refine zg8_now hx hb g8 hown hw h_o0 q2 dX8_work_15 ?_
    refine z_csi ⟨hx, hb, hml, hown, hts⟩ hw (kX8_moved (zk_8_6 hC h_o0) hq) (va_cwS 1 hts gX8_work_X8_moved rfl rfl rfl (by decide +kernel) ⟨Nat.le_of_ble_eq_true rfl, Nat.le_of_ble_eq_true rfl⟩) rfl hl.1 rfl (Nat.le_of_ble_eq_true rfl) dX8_work_18 ⟨Nat.zero_le _, Nat.zero_le _⟩ (fun r5 M0 J0 H locs hq hw => ?_)
    obtain ⟨hq, rfl, rfl⟩ := hq
    refine lv_istore_n (lv' := [(1, .int r5), (0, .ref (ad o0))]) hx hb dX8_work_21 rfl hl (by decide) rfl (fun ls hl => ?_)
    refine lv_aload_n hx hb dX8_work_22 rfl (lv_at hl 1 rfl) ?_
    refine zg8_now hx hb g8 hown hw h_o0 q2 dX8_work_23 ?_
    refine z_csv ⟨hx, hb, hml, hown, hts⟩ hw (kX8_works (zk_8_6 hC h_o0) hq) (va_cwS 1 hts gX8_work_X8_works rfl rfl rfl (by decide +kernel) ⟨Nat.le_of_ble_eq_true rfl, Nat.le_of_ble_eq_true rfl⟩) rfl hl.1 rfl (Nat.le_of_ble_eq_true rfl) dX8_work_26 ⟨Nat.zero_le _, Nat.zero_le _⟩ (fun M6 J0 H locs hq hw => ?_)
    obtain ⟨hq, rfl⟩ := hq
    refine lv_iload_n hx hb dX8_work_29 rfl (lv_at hl 0 rfl) ?_
    exact z_iret hQE hx hb hr hlk hw dX8_work_30 ⟨hq, rfl⟩
  · have hq := hq.2 hc
    refine lv_ldc (v := (-1000002 : Int32)) hx hb hown q1 dX8_work_7 ?_
    exact z_iret hQE hx hb hr hlk hw dX8_work_9 ⟨hq, rfl⟩
set_option maxRecDepth 20000 in
theorem ggX8_gangs_X8_copies : GoodIn wsX8_gangs wsX8_copies := goodIn_r _ [7] (by decide +kernel) (by decide +kernel)
set_option maxRecDepth 20000 in
theorem gX8_gangs_X8_copies : GoodIn wsX8_gangs (va_wsS RX8 135 yX8_copies wsX8_copies) := goodIn_app (goodIn_of _ (by decide +kernel)) ggX8_gangs_X8_copies
set_option maxRecDepth 20000 in
theorem ggX8_gangs_X8_reach : GoodIn wsX8_gangs wsX8_reach := goodIn_r _ [10] (by decide +kernel) (by decide +kernel)
set_option maxRecDepth 20000 in
theorem gX8_gangs_X8_reach : GoodIn wsX8_gangs (va_wsS RX8 166 yX8_reach wsX8_reach) := goodIn_app (goodIn_of _ (by decide +kernel)) ggX8_gangs_X8_reach
set_option maxRecDepth 20000 in
theorem ggX8_gangs_X8_step : GoodIn wsX8_gangs wsX8_step := goodIn_r _ [13, 14, 15, 6, 16, 17, 18, 19, 20, 21, 22, 23, 24, 25, 26, 27, 28] (by decide +kernel) (by decide +kernel)
set_option maxRecDepth 20000 in
theorem gX8_gangs_X8_step : GoodIn wsX8_gangs (va_wsS RX8 156 yX8_step wsX8_step) := goodIn_app (goodIn_of _ (by decide +kernel)) ggX8_gangs_X8_step
theorem dX8_gangs_0 : decode cX8_gangs 0 = .ok (.iload_n 1, 1) := by decide +kernel
theorem dX8_gangs_1 : decode cX8_gangs 1 = .ok (.ifCond .le 9, 3) := by decide +kernel
theorem dX8_gangs_4 : decode cX8_gangs 4 = .ok (.iload_n 1, 1) := by decide +kernel
theorem dX8_gangs_5 : decode cX8_gangs 5 = .ok (.iconst 1, 1) := by decide +kernel
theorem dX8_gangs_6 : decode cX8_gangs 6 = .ok (.isub, 1) := by decide +kernel
theorem dX8_gangs_7 : decode cX8_gangs 7 = .ok (.goto 4, 3) := by decide +kernel
theorem dX8_gangs_10 : decode cX8_gangs 10 = .ok (.iconst 0, 1) := by decide +kernel
theorem dX8_gangs_11 : decode cX8_gangs 11 = .ok (.istore_n 2, 1) := by decide +kernel
theorem dX8_gangs_12 : decode cX8_gangs 12 = .ok (.iconst 2, 1) := by decide +kernel
theorem dX8_gangs_13 : decode cX8_gangs 13 = .ok (.iconst 4, 1) := by decide +kernel
theorem dX8_gangs_14 : decode cX8_gangs 14 = .ok (.iload_n 1, 1) := by decide +kernel
theorem dX8_gangs_15 : decode cX8_gangs 15 = .ok (.imul, 1) := by decide +kernel
theorem dX8_gangs_16 : decode cX8_gangs 16 = .ok (.iadd, 1) := by decide +kernel
theorem dX8_gangs_17 : decode cX8_gangs 17 = .ok (.iconst 3, 1) := by decide +kernel
theorem dX8_gangs_18 : decode cX8_gangs 18 = .ok (.iadd, 1) := by decide +kernel
theorem dX8_gangs_19 : decode cX8_gangs 19 = .ok (.istore_n 3, 1) := by decide +kernel
theorem dX8_gangs_20 : decode cX8_gangs 20 = .ok (.iconst 0, 1) := by decide +kernel
theorem dX8_gangs_21 : decode cX8_gangs 21 = .ok (.istore 4, 2) := by decide +kernel
theorem dX8_gangs_23 : decode cX8_gangs 23 = .ok (.ldc 184, 2) := by decide +kernel
theorem dX8_gangs_25 : decode cX8_gangs 25 = .ok (.istore 5, 2) := by decide +kernel
theorem dX8_gangs_27 : decode cX8_gangs 27 = .ok (.aload_n 0, 1) := by decide +kernel
theorem dX8_gangs_28 : decode cX8_gangs 28 = .ok (.getfield 25, 3) := by decide +kernel
theorem dX8_gangs_31 : decode cX8_gangs 31 = .ok (.iconst 0, 1) := by decide +kernel
theorem dX8_gangs_32 : decode cX8_gangs 32 = .ok (.aload_n 0, 1) := by decide +kernel
theorem dX8_gangs_33 : decode cX8_gangs 33 = .ok (.getfield 31, 3) := by decide +kernel
theorem dX8_gangs_36 : decode cX8_gangs 36 = .ok (.iconst 0, 1) := by decide +kernel
theorem dX8_gangs_37 : decode cX8_gangs 37 = .ok (.invokestatic 135, 3) := by decide +kernel
theorem dX8_gangs_40 : decode cX8_gangs 40 = .ok (.iconst 0, 1) := by decide +kernel
theorem dX8_gangs_41 : decode cX8_gangs 41 = .ok (.istore 6, 2) := by decide +kernel
theorem dX8_gangs_43 : decode cX8_gangs 43 = .ok (.iload 6, 2) := by decide +kernel
theorem dX8_gangs_45 : decode cX8_gangs 45 = .ok (.aload_n 0, 1) := by decide +kernel
theorem dX8_gangs_46 : decode cX8_gangs 46 = .ok (.getfield 25, 3) := by decide +kernel
theorem dX8_gangs_49 : decode cX8_gangs 49 = .ok (.iload_n 1, 1) := by decide +kernel
theorem dX8_gangs_50 : decode cX8_gangs 50 = .ok (.invokestatic 166, 3) := by decide +kernel
theorem dX8_gangs_53 : decode cX8_gangs 53 = .ok (.if_icmp .gt 80, 3) := by decide +kernel
theorem dX8_gangs_56 : decode cX8_gangs 56 = .ok (.iconst (-1), 1) := by decide +kernel
theorem dX8_gangs_57 : decode cX8_gangs 57 = .ok (.istore 7, 2) := by decide +kernel
theorem dX8_gangs_59 : decode cX8_gangs 59 = .ok (.iload 7, 2) := by decide +kernel
theorem dX8_gangs_61 : decode cX8_gangs 61 = .ok (.iconst 2, 1) := by decide +kernel
theorem dX8_gangs_62 : decode cX8_gangs 62 = .ok (.if_icmp .ge 65, 3) := by decide +kernel
theorem dX8_gangs_65 : decode cX8_gangs 65 = .ok (.aload_n 0, 1) := by decide +kernel
theorem dX8_gangs_66 : decode cX8_gangs 66 = .ok (.getfield 31, 3) := by decide +kernel
theorem dX8_gangs_69 : decode cX8_gangs 69 = .ok (.iload_n 3, 1) := by decide +kernel
theorem dX8_gangs_70 : decode cX8_gangs 70 = .ok (.iload 7, 2) := by decide +kernel
theorem dX8_gangs_72 : decode cX8_gangs 72 = .ok (.iload 6, 2) := by decide +kernel
theorem dX8_gangs_74 : decode cX8_gangs 74 = .ok (.imul, 1) := by decide +kernel
theorem dX8_gangs_75 : decode cX8_gangs 75 = .ok (.iastore, 1) := by decide +kernel
theorem dX8_gangs_76 : decode cX8_gangs 76 = .ok (.aload_n 0, 1) := by decide +kernel
theorem dX8_gangs_77 : decode cX8_gangs 77 = .ok (.getfield 31, 3) := by decide +kernel
theorem dX8_gangs_80 : decode cX8_gangs 80 = .ok (.iload_n 2, 1) := by decide +kernel
theorem dX8_gangs_81 : decode cX8_gangs 81 = .ok (.invokestatic 156, 3) := by decide +kernel
theorem dX8_gangs_84 : decode cX8_gangs 84 = .ok (.istore 8, 2) := by decide +kernel
theorem dX8_gangs_86 : decode cX8_gangs 86 = .ok (.iload 8, 2) := by decide +kernel
theorem dX8_gangs_88 : decode cX8_gangs 88 = .ok (.iload 5, 2) := by decide +kernel
theorem dX8_gangs_90 : decode cX8_gangs 90 = .ok (.if_icmp .ge 11, 3) := by decide +kernel
theorem dX8_gangs_93 : decode cX8_gangs 93 = .ok (.iload 7, 2) := by decide +kernel
theorem dX8_gangs_95 : decode cX8_gangs 95 = .ok (.iload 6, 2) := by decide +kernel
theorem dX8_gangs_97 : decode cX8_gangs 97 = .ok (.imul, 1) := by decide +kernel
theorem dX8_gangs_98 : decode cX8_gangs 98 = .ok (.goto 5, 3) := by decide +kernel
theorem dX8_gangs_101 : decode cX8_gangs 101 = .ok (.iload 4, 2) := by decide +kernel
theorem dX8_gangs_103 : decode cX8_gangs 103 = .ok (.istore 4, 2) := by decide +kernel
theorem dX8_gangs_105 : decode cX8_gangs 105 = .ok (.iload 8, 2) := by decide +kernel
theorem dX8_gangs_107 : decode cX8_gangs 107 = .ok (.iload 5, 2) := by decide +kernel
theorem dX8_gangs_109 : decode cX8_gangs 109 = .ok (.if_icmp .ge 8, 3) := by decide +kernel
theorem dX8_gangs_112 : decode cX8_gangs 112 = .ok (.iload 8, 2) := by decide +kernel
theorem dX8_gangs_114 : decode cX8_gangs 114 = .ok (.goto 5, 3) := by decide +kernel
theorem dX8_gangs_117 : decode cX8_gangs 117 = .ok (.iload 5, 2) := by decide +kernel
theorem dX8_gangs_119 : decode cX8_gangs 119 = .ok (.istore 5, 2) := by decide +kernel
theorem dX8_gangs_121 : decode cX8_gangs 121 = .ok (.iinc 7 2, 3) := by decide +kernel
theorem dX8_gangs_124 : decode cX8_gangs 124 = .ok (.goto (-65), 3) := by decide +kernel
theorem dX8_gangs_127 : decode cX8_gangs 127 = .ok (.iinc 6 1, 3) := by decide +kernel
theorem dX8_gangs_130 : decode cX8_gangs 130 = .ok (.goto (-87), 3) := by decide +kernel
theorem dX8_gangs_133 : decode cX8_gangs 133 = .ok (.iload 4, 2) := by decide +kernel
theorem dX8_gangs_135 : decode cX8_gangs 135 = .ok (.ireturn, 1) := by decide +kernel
def rmX8_gangs : Room := { frames := 4, cells := 0, slots := 0, locals := 85 }
def jnX8_gangs_103 (x13 : Int32) (x14 : Int32) (M21 : zM) (r22 : Int32) (B59 : Int32 → Int32 → Int32 → zM → Prop) (x23 : Int32) : Prop :=
    ((x13 ≤ r22) → (
    ∀ x24 : Int32, x24 = x14 + (2 : Int32) →
    B59 x23 x13 x24 M21)) ∧
    ((¬ x13 ≤ r22) → (
    ∀ x25 : Int32, x25 = x14 + (2 : Int32) →
    B59 x23 r22 x25 M21))
def lpX8_gangs_59 (o0 : Nat) (x4 : Int32) (x5 : Int32) (x9 : Int32) (K59_127 : Int32 → Int32 → Int32 → zM → Prop) : Nat → Int32 → Int32 → Int32 → zM → Prop
  | 0, _, _, _, _ => False
  | fu59 + 1, x12, x13, x14, M15 =>
    (((2 : Int32) ≤ x14) → (
    K59_127 x12 x13 x14 M15)) ∧
    ((¬ (2 : Int32) ≤ x14) → (
    vp_in x5 50 ∧
    ∀ M21 : zM, M21 = va_up M15 (o0 + 8) (upd (M15 (o0 + 8)) x5.toNatClampNeg (x14 * x9)) →
    wX8_step M21 (o0 + 8) 50 x4 (fun r22 =>
    ((x13 ≤ r22) → (
    jnX8_gangs_103 x13 x14 M21 r22 (lpX8_gangs_59 o0 x4 x5 x9 K59_127 fu59) x12)) ∧
    ((¬ x13 ≤ r22) → (
    jnX8_gangs_103 x13 x14 M21 r22 (lpX8_gangs_59 o0 x4 x5 x9 K59_127 fu59) (x14 * x9))))))
def lpX8_gangs_43 (o0 : Nat) (x1 : Int32) (x4 : Int32) (x5 : Int32) (Q : Int32 → zM → Prop) : Nat → Int32 → Int32 → Int32 → zM → Prop
  | 0, _, _, _, _ => False
  | fu43 + 1, x7, x8, x9, M10 =>
    wX8_reach M10 (o0 + 6) 50 x1 (fun r11 =>
    ((r11 < x9) → (
    Q x7 M10)) ∧
    ((¬ r11 < x9) → (
    ∃ fu59 : Nat, lpX8_gangs_59 o0 x4 x5 x9 (fun x16 x17 x18 M19 =>
    ∀ x20 : Int32, x20 = x9 + (1 : Int32) →
    lpX8_gangs_43 o0 x1 x4 x5 Q fu43 x16 x17 x20 M19) fu59 x7 x8 (-1 : Int32) M10)))
def jnX8_gangs_11 (M : zM) (o0 : Nat) (x1 : Int32) (Q : Int32 → zM → Prop) (x4 : Int32) : Prop :=
    ∀ x5 : Int32, x5 = (((2 : Int32) + ((4 : Int32) * x1)) + (3 : Int32)) →
    wX8_copies M (o0 + 6) 50 (0 : Int32) (o0 + 8) 50 (0 : Int32) (fun M6 =>
    ∃ fu43 : Nat, lpX8_gangs_43 o0 x1 x4 x5 Q fu43 (0 : Int32) (1000000000 : Int32) (0 : Int32) M6)
def wX8_gangs (M : zM) (o0 : Nat) (x1 : Int32) (Q : Int32 → zM → Prop) : Prop :=
    ((x1 ≤ 0) → (
    jnX8_gangs_11 M o0 x1 Q (0 : Int32))) ∧
    ((¬ x1 ≤ 0) → (
    jnX8_gangs_11 M o0 x1 Q (x1 - (1 : Int32))))
set_option maxHeartbeats 4000000 in
set_option maxRecDepth 100000 in
theorem kX8_gangs {l : Launch} {D : va_G} {Y : zY} {ad kd : Nat → Nat} {RL : List Nat} {M : zM} {J : zL} {o0 : Nat} {x1 : Int32} (h_o0 : kd o0 = 8) {Q : Int32 → zM → Prop} (hq : wX8_gangs M o0 x1 Q) : zCi l yX8_gangs wsX8_gangs rmX8_gangs [.ref (ad o0), .int x1] D Y ad kd RL M J (fun r M' J' => Q r M' ∧ J = J') := by
  refine z_meti (cc := cX8_gangs) (maxL := 9) (ret := (some .int)) (by decide) rfl (Nat.le_of_ble_eq_true rfl) ?_
  intro p e s m below meth c ls A ar QE hQE hx hb hr hml hown hts hlk hw hl
  have hown : s.vm.findClass RX8 = some m.cls := hown
  have hl : lv_has ls 9 [(0, .ref (ad o0)), (1, .int x1)] := hl
  have hC := hw.2.2.2.2.2.1
  have g8 : ∀ w ∈ wsX80, w.before ar s = true := (fun w h => hts w (List.mem_cons_of_mem _ (List.mem_append_right _ h)))
  have q1 := hts _ (List.mem_of_getElem? (i := 1) rfl)
  have q2 := hts _ (List.mem_of_getElem? (i := 2) rfl)
  have q3 := hts _ (List.mem_of_getElem? (i := 3) rfl)
  unfold wX8_gangs at hq
  refine lv_iload_n hx hb dX8_gangs_0 rfl (lv_at hl 1 rfl) ?_
  have jn11 : ∀ (x4 : Int32) (H : Heap) (locs : List Loc) (ls : Array Slot), jnX8_gangs_11 M o0 x1 Q x4 → zH D Y ad kd RL M J A s.heap H locs s → lv_has ls 9 [(0, .ref (ad o0)), (1, .int x1)] → W p l e rmX8_gangs s m ar below meth c H locs 0 0 QE (F0 m 11 ls [.int x4]) := by
    intro x4 H locs ls hq hw hl
    unfold jnX8_gangs_11 at hq
    refine lv_istore_n (lv' := [(2, .int x4), (0, .ref (ad o0)), (1, .int x1)]) hx hb dX8_gangs_11 rfl hl (by decide) rfl (fun ls hl => ?_)
    refine lv_iconst (v := (2 : Int32)) hx hb dX8_gangs_12 (by decide) ?_
    refine lv_iconst (v := (4 : Int32)) hx hb dX8_gangs_13 (by decide) ?_
    refine lv_iload_n hx hb dX8_gangs_14 rfl (lv_at hl 2 rfl) ?_
    refine lv_imul hx hb dX8_gangs_15 ?_
    refine lv_iadd hx hb dX8_gangs_16 ?_
    refine lv_iconst (v := (3 : Int32)) hx hb dX8_gangs_17 (by decide) ?_
    refine lv_iadd hx hb dX8_gangs_18 ?_
    refine lv_topi (fun x5 e_x5 => ?_)
    have hq := hq x5 e_x5
    refine lv_istore_n (lv' := [(3, .int x5), (2, .int x4), (0, .ref (ad o0)), (1, .int x1)]) hx hb dX8_gangs_19 rfl hl (by decide) rfl (fun ls hl => ?_)
    refine lv_iconst (v := (0 : Int32)) hx hb dX8_gangs_20 (by decide) ?_
    refine lv_istore (lv' := [(4, .int (0 : Int32)), (3, .int x5), (2, .int x4), (0, .ref (ad o0)), (1, .int x1)]) hx hb dX8_gangs_21 hl (by decide) rfl (fun ls hl => ?_)
    refine lv_ldc (v := (1000000000 : Int32)) hx hb hown q1 dX8_gangs_23 ?_
    refine lv_istore (lv' := [(5, .int (1000000000 : Int32)), (4, .int (0 : Int32)), (3, .int x5), (2, .int x4), (0, .ref (ad o0)), (1, .int x1)]) hx hb dX8_gangs_25 hl (by decide) rfl (fun ls hl => ?_)
    refine lv_aload_n hx hb dX8_gangs_27 rfl (lv_at hl 4 rfl) ?_
    refine zg8_now hx hb g8 hown hw h_o0 q2 dX8_gangs_28 ?_
    refine lv_iconst (v := (0 : Int32)) hx hb dX8_gangs_31 (by decide) ?_
    refine lv_aload_n hx hb dX8_gangs_32 rfl (lv_at hl 4 rfl) ?_
    refine zg8_tried hx hb g8 hown hw h_o0 q3 dX8_gangs_33 ?_
    refine lv_iconst (v := (0 : Int32)) hx hb dX8_gangs_36 (by decide) ?_
    refine z_csv ⟨hx, hb, hml, hown, hts⟩ hw (kX8_copies (zk_8_6 hC h_o0) (zk_8_8 hC h_o0) hq) (va_cwS 4 hts gX8_gangs_X8_copies rfl rfl rfl (by decide +kernel) ⟨Nat.le_of_ble_eq_true rfl, Nat.le_of_ble_eq_true rfl⟩) rfl hl.1 rfl (Nat.le_of_ble_eq_true rfl) dX8_gangs_37 ⟨Nat.zero_le _, Nat.zero_le _⟩ (fun M6 J0 H locs hq hw => ?_)
    obtain ⟨hq, rfl⟩ := hq
    refine lv_iconst (v := (0 : Int32)) hx hb dX8_gangs_40 (by decide) ?_
    refine lv_istore (lv' := [(6, .int (0 : Int32)), (5, .int (1000000000 : Int32)), (4, .int (0 : Int32)), (3, .int x5), (2, .int x4), (0, .ref (ad o0)), (1, .int x1)]) hx hb dX8_gangs_41 hl (by decide) rfl (fun ls hl => ?_)
    obtain ⟨fu43, hq⟩ := hq
    have lp43 : ∀ (fu43 : Nat) (x7 : Int32) (x8 : Int32) (x9 : Int32) (M10 : zM) (H : Heap) (locs : List Loc) (ls : Array Slot), lpX8_gangs_43 o0 x1 x4 x5 Q fu43 x7 x8 x9 M10 → zH D Y ad kd RL M10 J A s.heap H locs s → lv_has ls 9 [(0, .ref (ad o0)), (1, .int x1), (2, .int x4), (3, .int x5), (4, .int x7), (5, .int x8), (6, .int x9)] → W p l e rmX8_gangs s m ar below meth c H locs 0 0 QE (F0 m 43 ls []) := by
      intro fu43
      induction fu43 with
      | zero => intro x7 x8 x9 M10 H locs ls hq; exact hq.elim
      | succ fu43 ih43 =>
        intro x7 x8 x9 M10 H locs ls hq hw hl
        unfold lpX8_gangs_43 at hq
        refine lv_iload hx hb dX8_gangs_43 (lv_at hl 6 rfl) ?_
        refine lv_aload_n hx hb dX8_gangs_45 rfl (lv_at hl 0 rfl) ?_
        refine zg8_now hx hb g8 hown hw h_o0 q2 dX8_gangs_46 ?_
        refine lv_iload_n hx hb dX8_gangs_49 rfl (lv_at hl 1 rfl) ?_
        refine z_csi ⟨hx, hb, hml, hown, hts⟩ hw (kX8_reach (zk_8_6 hC h_o0) hq) (va_cwS 2 hts gX8_gangs_X8_reach rfl rfl rfl (by decide +kernel) ⟨Nat.le_of_ble_eq_true rfl, Nat.le_of_ble_eq_true rfl⟩) rfl hl.1 rfl (Nat.le_of_ble_eq_true rfl) dX8_gangs_50 ⟨Nat.zero_le _, Nat.zero_le _⟩ (fun r11 M0 J0 H locs hq hw => ?_)
        obtain ⟨hq, rfl, rfl⟩ := hq
        refine lv_icmp_gt (tgt := 133) hx hb dX8_gangs_53 (by decide) (fun hc => ?_) (fun hc => ?_)
        · have hq := hq.1 hc
          refine lv_iload hx hb dX8_gangs_133 (lv_at hl 4 rfl) ?_
          exact z_iret hQE hx hb hr hlk hw dX8_gangs_135 ⟨hq, rfl⟩
        · have hq := hq.2 hc
          refine lv_iconst (v := (-1 : Int32)) hx hb dX8_gangs_56 (by decide) ?_
          refine lv_istore (lv' := [(7, .int (-1 : Int32)), (0, .ref (ad o0)), (1, .int x1), (2, .int x4), (3, .int x5), (4, .int x7), (5, .int x8), (6, .int x9)]) hx hb dX8_gangs_57 hl (by decide) rfl (fun ls hl => ?_)
          have ex59_127 : ∀ (x16 : Int32) (x17 : Int32) (x18 : Int32) (M19 : zM) (H : Heap) (locs : List Loc) (ls : Array Slot), (∀ x20 : Int32, x20 = x9 + (1 : Int32) → lpX8_gangs_43 o0 x1 x4 x5 Q fu43 x16 x17 x20 M19) → zH D Y ad kd RL M19 J A s.heap H locs s → lv_has ls 9 [(0, .ref (ad o0)), (1, .int x1), (2, .int x4), (3, .int x5), (4, .int x16), (5, .int x17), (6, .int x9)] → W p l e rmX8_gangs s m ar below meth c H locs 0 0 QE (F0 m 127 ls []) := by
            intro x16 x17 x18 M19 H locs ls hq hw hl
            obtain ⟨x20, e_x20⟩ : ∃ y : Int32, y = x9 + (1 : Int32) := ⟨_, rfl⟩
            have hq := hq x20 e_x20
            refine lv_iinc (v := x20) (lv' := [(6, .int x20), (0, .ref (ad o0)), (1, .int x1), (2, .int x4), (3, .int x5), (4, .int x16), (5, .int x17)]) hx hb dX8_gangs_127 hl (k := 6) rfl (by rw [e_x20]; rfl) (by decide) rfl (fun ls hl => ?_)
            refine lv_goto (tgt := 43) hx hb dX8_gangs_130 (by decide) ?_
            exact ih43 x16 x17 x20 M19 _ _ _ hq hw (lv_sub hl [1, 2, 3, 4, 5, 6, 0] rfl)
          obtain ⟨fu59, hq⟩ := hq
          have lp59 : ∀ (fu59 : Nat) (x12 : Int32) (x13 : Int32) (x14 : Int32) (M15 : zM) (H : Heap) (locs : List Loc) (ls : Array Slot), lpX8_gangs_59 o0 x4 x5 x9 (fun x16 x17 x18 M19 => ∀ x20 : Int32, x20 = x9 + (1 : Int32) → lpX8_gangs_43 o0 x1 x4 x5 Q fu43 x16 x17 x20 M19) fu59 x12 x13 x14 M15 → zH D Y ad kd RL M15 J A s.heap H locs s → lv_has ls 9 [(0, .ref (ad o0)), (1, .int x1), (2, .int x4), (3, .int x5), (4, .int x12), (5, .int x13), (6, .int x9), (7, .int x14)] → W p l e rmX8_gangs s m ar below meth c H locs 0 0 QE (F0 m 59 ls []) := by
            intro fu59
            induction fu59 with
            | zero => intro x12 x13 x14 M15 H locs ls hq; exact hq.elim
            | succ fu59 ih59 =>
              intro x12 x13 x14 M15 H locs ls hq hw hl
              unfold lpX8_gangs_59 at hq
              refine lv_iload hx hb dX8_gangs_59 (lv_at hl 7 rfl) ?_
              refine lv_iconst (v := (2 : Int32)) hx hb dX8_gangs_61 (by decide) ?_
              refine lv_icmp_ge (tgt := 127) hx hb dX8_gangs_62 (by decide) (fun hc => ?_) (fun hc => ?_)
              · have hq := hq.1 hc
                exact ex59_127 x12 x13 x14 M15 _ _ _ hq hw (lv_sub hl [0, 1, 2, 3, 4, 5, 6] rfl)
              · have hq := hq.2 hc
                refine lv_aload_n hx hb dX8_gangs_65 rfl (lv_at hl 0 rfl) ?_
                refine zg8_tried hx hb g8 hown hw h_o0 q3 dX8_gangs_66 ?_
                refine lv_iload_n hx hb dX8_gangs_69 rfl (lv_at hl 3 rfl) ?_
                refine lv_iload hx hb dX8_gangs_70 (lv_at hl 7 rfl) ?_
                refine lv_iload hx hb dX8_gangs_72 (lv_at hl 6 rfl) ?_
                refine lv_imul hx hb dX8_gangs_74 ?_
                obtain ⟨hi, hq⟩ := hq
                refine z_iast (n := 50) hx hb hw (zk_8_8 hC h_o0) hi dX8_gangs_75 (fun H locs hw => ?_)
                obtain ⟨M21, e_M21⟩ : ∃ y : zM, y = va_up M15 (o0 + 8) (upd (M15 (o0 + 8)) x5.toNatClampNeg (x14 * x9)) := ⟨_, rfl⟩
                rw [← e_M21] at hw
                have hq := hq M21 e_M21
                refine lv_aload_n hx hb dX8_gangs_76 rfl (lv_at hl 0 rfl) ?_
                refine zg8_tried hx hb g8 hown hw h_o0 q3 dX8_gangs_77 ?_
                refine lv_iload_n hx hb dX8_gangs_80 rfl (lv_at hl 2 rfl) ?_
                refine z_csi ⟨hx, hb, hml, hown, hts⟩ hw (kX8_step (zk_8_8 hC h_o0) hq) (va_cwS 2 hts gX8_gangs_X8_step rfl rfl rfl (by decide +kernel) ⟨Nat.le_of_ble_eq_true rfl, Nat.le_of_ble_eq_true rfl⟩) rfl hl.1 rfl (Nat.le_of_ble_eq_true rfl) dX8_gangs_81 ⟨Nat.zero_le _, Nat.zero_le _⟩ (fun r22 M0 J0 H locs hq hw => ?_)
                obtain ⟨hq, rfl, rfl⟩ := hq
                refine lv_istore (lv' := [(8, .int r22), (0, .ref (ad o0)), (1, .int x1), (2, .int x4), (3, .int x5), (4, .int x12), (5, .int x13), (6, .int x9), (7, .int x14)]) hx hb dX8_gangs_84 hl (by decide) rfl (fun ls hl => ?_)
                refine lv_iload hx hb dX8_gangs_86 (lv_at hl 0 rfl) ?_
                refine lv_iload hx hb dX8_gangs_88 (lv_at hl 6 rfl) ?_
                have jn103 : ∀ (x23 : Int32) (H : Heap) (locs : List Loc) (ls : Array Slot), jnX8_gangs_103 x13 x14 M21 r22 (lpX8_gangs_59 o0 x4 x5 x9 (fun x16 x17 x18 M19 => ∀ x20 : Int32, x20 = x9 + (1 : Int32) → lpX8_gangs_43 o0 x1 x4 x5 Q fu43 x16 x17 x20 M19) fu59) x23 → zH D Y ad kd RL M21 J A s.heap H locs s → lv_has ls 9 [(0, .ref (ad o0)), (1, .int x1), (2, .int x4), (3, .int x5), (5, .int x13), (6, .int x9), (7, .int x14), (8, .int r22)] → W p l e rmX8_gangs s m ar below meth c H locs 0 0 QE (F0 m 103 ls [.int x23]) := by
                  intro x23 H locs ls hq hw hl
                  unfold jnX8_gangs_103 at hq
                  refine lv_istore (lv' := [(4, .int x23), (0, .ref (ad o0)), (1, .int x1), (2, .int x4), (3, .int x5), (5, .int x13), (6, .int x9), (7, .int x14), (8, .int r22)]) hx hb dX8_gangs_103 hl (by decide) rfl (fun ls hl => ?_)
                  refine lv_iload hx hb dX8_gangs_105 (lv_at hl 8 rfl) ?_
                  refine lv_iload hx hb dX8_gangs_107 (lv_at hl 5 rfl) ?_
                  refine lv_icmp_ge (tgt := 117) hx hb dX8_gangs_109 (by decide) (fun hc => ?_) (fun hc => ?_)
                  · have hq := hq.1 hc
                    refine lv_iload hx hb dX8_gangs_117 (lv_at hl 5 rfl) ?_
                    refine lv_istore (lv' := [(5, .int x13), (4, .int x23), (0, .ref (ad o0)), (1, .int x1), (2, .int x4), (3, .int x5), (6, .int x9), (7, .int x14), (8, .int r22)]) hx hb dX8_gangs_119 hl (by decide) rfl (fun ls hl => ?_)
                    obtain ⟨x24, e_x24⟩ : ∃ y : Int32, y = x14 + (2 : Int32) := ⟨_, rfl⟩
                    have hq := hq x24 e_x24
                    refine lv_iinc (v := x24) (lv' := [(7, .int x24), (5, .int x13), (4, .int x23), (0, .ref (ad o0)), (1, .int x1), (2, .int x4), (3, .int x5), (6, .int x9), (8, .int r22)]) hx hb dX8_gangs_121 hl (k := 7) rfl (by rw [e_x24]; rfl) (by decide) rfl (fun ls hl => ?_)
                    refine lv_goto (tgt := 59) hx hb dX8_gangs_124 (by decide) ?_
                    exact ih59 x23 x13 x24 M21 _ _ _ hq hw (lv_sub hl [3, 4, 5, 6, 2, 1, 7, 0] rfl)
                  · have hq := hq.2 hc
                    refine lv_iload hx hb dX8_gangs_112 (lv_at hl 8 rfl) ?_
                    refine lv_goto (tgt := 119) hx hb dX8_gangs_114 (by decide) ?_
                    refine lv_istore (lv' := [(5, .int r22), (4, .int x23), (0, .ref (ad o0)), (1, .int x1), (2, .int x4), (3, .int x5), (6, .int x9), (7, .int x14), (8, .int r22)]) hx hb dX8_gangs_119 hl (by decide) rfl (fun ls hl => ?_)
                    obtain ⟨x25, e_x25⟩ : ∃ y : Int32, y = x14 + (2 : Int32) := ⟨_, rfl⟩
                    have hq := hq x25 e_x25
                    refine lv_iinc (v := x25) (lv' := [(7, .int x25), (5, .int r22), (4, .int x23), (0, .ref (ad o0)), (1, .int x1), (2, .int x4), (3, .int x5), (6, .int x9), (8, .int r22)]) hx hb dX8_gangs_121 hl (k := 7) rfl (by rw [e_x25]; rfl) (by decide) rfl (fun ls hl => ?_)
                    refine lv_goto (tgt := 59) hx hb dX8_gangs_124 (by decide) ?_
                    exact ih59 x23 r22 x25 M21 _ _ _ hq hw (lv_sub hl [3, 4, 5, 6, 2, 1, 7, 0] rfl)
                refine lv_icmp_ge (tgt := 101) hx hb dX8_gangs_90 (by decide) (fun hc => ?_) (fun hc => ?_)
                · have hq := hq.1 hc
                  refine lv_iload hx hb dX8_gangs_101 (lv_at hl 5 rfl) ?_
                  exact jn103 x12 _ _ _ hq hw (lv_sub hl [1, 2, 3, 4, 6, 7, 8, 0] rfl)
                · have hq := hq.2 hc
                  refine lv_iload hx hb dX8_gangs_93 (lv_at hl 8 rfl) ?_
                  refine lv_iload hx hb dX8_gangs_95 (lv_at hl 7 rfl) ?_
                  refine lv_imul hx hb dX8_gangs_97 ?_
                  refine lv_goto (tgt := 103) hx hb dX8_gangs_98 (by decide) ?_
                  exact jn103 (x14 * x9) _ _ _ hq hw (lv_sub hl [1, 2, 3, 4, 6, 7, 8, 0] rfl)
          exact lp59 fu59 x7 x8 (-1 : Int32) M10 _ _ _ hq hw (lv_sub hl [1, 2, 3, 4, 5, 6, 7, 0] rfl)
    exact lp43 fu43 (0 : Int32) (1000000000 : Int32) (0 : Int32) M6 _ _ _ hq hw (lv_sub hl [5, 6, 4, 3, 2, 1, 0] rfl)
  refine lv_if_le (tgt := 10) hx hb dX8_gangs_1 (by decide) (fun hc => ?_) (fun hc => ?_)
  · have hq := hq.1 hc
    refine lv_iconst (v := (0 : Int32)) hx hb dX8_gangs_10 (by decide) ?_
    exact jn11 (0 : Int32) _ _ _ hq hw (lv_sub hl [0, 1] rfl)
  · have hq := hq.2 hc
    refine lv_iload_n hx hb dX8_gangs_4 rfl (lv_at hl 1 rfl) ?_
    refine lv_iconst (v := (1 : Int32)) hx hb dX8_gangs_5 (by decide) ?_
    refine lv_isub hx hb dX8_gangs_6 ?_
    refine lv_goto (tgt := 11) hx hb dX8_gangs_7 (by decide) ?_
    exact jn11 (x1 - (1 : Int32)) _ _ _ hq hw (lv_sub hl [0, 1] rfl)
set_option maxRecDepth 20000 in
theorem ggX8_gang_X8_isPeg : GoodIn wsX8_gang wsX8_isPeg := goodIn_r _ [7, 2, 8, 9, 6, 10, 47, 48, 49, 50, 51, 52, 53, 54, 55, 56, 57, 58, 59, 60, 61, 62, 63, 64, 65, 66, 67, 68, 69, 70, 71, 72] (by decide +kernel) (by decide +kernel)
set_option maxRecDepth 20000 in
theorem gX8_gang_X8_isPeg : GoodIn wsX8_gang (wsV RX8 163 RX8 yX8_isPeg wsX8_isPeg) := goodIn_app (goodIn_of _ (by decide +kernel)) ggX8_gang_X8_isPeg
set_option maxRecDepth 20000 in
theorem ggX8_gang_X8_in : GoodIn wsX8_gang wsX8_in := goodIn_r _ [10] (by decide +kernel) (by decide +kernel)
set_option maxRecDepth 20000 in
theorem gX8_gang_X8_in : GoodIn wsX8_gang (va_wsS RX8 59 yX8_in wsX8_in) := goodIn_app (goodIn_of _ (by decide +kernel)) ggX8_gang_X8_in
set_option maxRecDepth 20000 in
theorem ggX8_gang_X8_gangs : GoodIn wsX8_gang wsX8_gangs := goodIn_r _ [14, 15, 2, 16, 17, 18, 6, 19, 20, 21, 22, 23, 24, 25, 26, 27, 28, 29, 30, 31, 32, 33, 34, 8, 9, 10, 35, 36, 37, 47, 48, 49, 50, 51, 52, 53, 54, 55, 56, 57, 58, 59, 60, 61, 62, 63, 64, 65, 66, 67, 68, 69, 70, 71, 72] (by decide +kernel) (by decide +kernel)
set_option maxRecDepth 20000 in
theorem gX8_gang_X8_gangs : GoodIn wsX8_gang (wsV RX8 185 RX8 yX8_gangs wsX8_gangs) := goodIn_app (goodIn_of _ (by decide +kernel)) ggX8_gang_X8_gangs
set_option maxRecDepth 20000 in
theorem ggX8_gang_X8_notes : GoodIn wsX8_gang wsX8_notes := goodIn_r _ [41, 42, 43, 2, 17, 18, 6, 19, 47, 48, 49, 50, 51, 52, 53, 54, 55, 56, 57, 58, 59, 60, 61, 62, 63, 64, 65, 66, 67, 68, 69, 70, 71, 72] (by decide +kernel) (by decide +kernel)
set_option maxRecDepth 20000 in
theorem gX8_gang_X8_notes : GoodIn wsX8_gang (wsV RX8 170 RX8 yX8_notes wsX8_notes) := goodIn_app (goodIn_of _ (by decide +kernel)) ggX8_gang_X8_notes
set_option maxRecDepth 20000 in
theorem ggX8_gang_X8_worst : GoodIn wsX8_gang wsX8_worst := goodIn_r _ [46, 23, 24, 6, 25, 26, 27, 28, 29, 30, 31, 32, 33, 34, 8, 9, 10, 35, 36, 37] (by decide +kernel) (by decide +kernel)
set_option maxRecDepth 20000 in
theorem gX8_gang_X8_worst : GoodIn wsX8_gang (va_wsS RX8 188 yX8_worst wsX8_worst) := goodIn_app (goodIn_of _ (by decide +kernel)) ggX8_gang_X8_worst
theorem dX8_gang_0 : decode cX8_gang 0 = .ok (.aload_n 0, 1) := by decide +kernel
theorem dX8_gang_1 : decode cX8_gang 1 = .ok (.iload_n 1, 1) := by decide +kernel
theorem dX8_gang_2 : decode cX8_gang 2 = .ok (.invokevirtual 163, 3) := by decide +kernel
theorem dX8_gang_5 : decode cX8_gang 5 = .ok (.ifCond .eq 13, 3) := by decide +kernel
theorem dX8_gang_8 : decode cX8_gang 8 = .ok (.iload_n 2, 1) := by decide +kernel
theorem dX8_gang_9 : decode cX8_gang 9 = .ok (.iconst 1, 1) := by decide +kernel
theorem dX8_gang_10 : decode cX8_gang 10 = .ok (.bipush 12, 2) := by decide +kernel
theorem dX8_gang_12 : decode cX8_gang 12 = .ok (.invokestatic 59, 3) := by decide +kernel
theorem dX8_gang_15 : decode cX8_gang 15 = .ok (.ifCond .ne 6, 3) := by decide +kernel
theorem dX8_gang_18 : decode cX8_gang 18 = .ok (.ldc 67, 2) := by decide +kernel
theorem dX8_gang_20 : decode cX8_gang 20 = .ok (.ireturn, 1) := by decide +kernel
theorem dX8_gang_21 : decode cX8_gang 21 = .ok (.iload_n 1, 1) := by decide +kernel
theorem dX8_gang_22 : decode cX8_gang 22 = .ok (.istore_n 3, 1) := by decide +kernel
theorem dX8_gang_23 : decode cX8_gang 23 = .ok (.iload_n 3, 1) := by decide +kernel
theorem dX8_gang_24 : decode cX8_gang 24 = .ok (.iload_n 1, 1) := by decide +kernel
theorem dX8_gang_25 : decode cX8_gang 25 = .ok (.iload_n 2, 1) := by decide +kernel
theorem dX8_gang_26 : decode cX8_gang 26 = .ok (.iadd, 1) := by decide +kernel
theorem dX8_gang_27 : decode cX8_gang 27 = .ok (.if_icmp .ge 44, 3) := by decide +kernel
theorem dX8_gang_30 : decode cX8_gang 30 = .ok (.iload_n 3, 1) := by decide +kernel
theorem dX8_gang_31 : decode cX8_gang 31 = .ok (.aload_n 0, 1) := by decide +kernel
theorem dX8_gang_32 : decode cX8_gang 32 = .ok (.getfield 25, 3) := by decide +kernel
theorem dX8_gang_35 : decode cX8_gang 35 = .ok (.iconst 0, 1) := by decide +kernel
theorem dX8_gang_36 : decode cX8_gang 36 = .ok (.iaload, 1) := by decide +kernel
theorem dX8_gang_37 : decode cX8_gang 37 = .ok (.if_icmp .ge 34, 3) := by decide +kernel
theorem dX8_gang_40 : decode cX8_gang 40 = .ok (.aload_n 0, 1) := by decide +kernel
theorem dX8_gang_41 : decode cX8_gang 41 = .ok (.iload_n 3, 1) := by decide +kernel
theorem dX8_gang_42 : decode cX8_gang 42 = .ok (.invokevirtual 185, 3) := by decide +kernel
theorem dX8_gang_45 : decode cX8_gang 45 = .ok (.istore 4, 2) := by decide +kernel
theorem dX8_gang_47 : decode cX8_gang 47 = .ok (.aload_n 0, 1) := by decide +kernel
theorem dX8_gang_48 : decode cX8_gang 48 = .ok (.invokevirtual 170, 3) := by decide +kernel
theorem dX8_gang_51 : decode cX8_gang 51 = .ok (.aload_n 0, 1) := by decide +kernel
theorem dX8_gang_52 : decode cX8_gang 52 = .ok (.getfield 25, 3) := by decide +kernel
theorem dX8_gang_55 : decode cX8_gang 55 = .ok (.iconst 2, 1) := by decide +kernel
theorem dX8_gang_56 : decode cX8_gang 56 = .ok (.iconst 4, 1) := by decide +kernel
theorem dX8_gang_57 : decode cX8_gang 57 = .ok (.iload_n 3, 1) := by decide +kernel
theorem dX8_gang_58 : decode cX8_gang 58 = .ok (.imul, 1) := by decide +kernel
theorem dX8_gang_59 : decode cX8_gang 59 = .ok (.iadd, 1) := by decide +kernel
theorem dX8_gang_60 : decode cX8_gang 60 = .ok (.iconst 3, 1) := by decide +kernel
theorem dX8_gang_61 : decode cX8_gang 61 = .ok (.iadd, 1) := by decide +kernel
theorem dX8_gang_62 : decode cX8_gang 62 = .ok (.iload 4, 2) := by decide +kernel
theorem dX8_gang_64 : decode cX8_gang 64 = .ok (.iastore, 1) := by decide +kernel
theorem dX8_gang_65 : decode cX8_gang 65 = .ok (.iinc 3 1, 3) := by decide +kernel
theorem dX8_gang_68 : decode cX8_gang 68 = .ok (.goto (-45), 3) := by decide +kernel
theorem dX8_gang_71 : decode cX8_gang 71 = .ok (.aload_n 0, 1) := by decide +kernel
theorem dX8_gang_72 : decode cX8_gang 72 = .ok (.getfield 25, 3) := by decide +kernel
theorem dX8_gang_75 : decode cX8_gang 75 = .ok (.invokestatic 188, 3) := by decide +kernel
theorem dX8_gang_78 : decode cX8_gang 78 = .ok (.ireturn, 1) := by decide +kernel
def rmX8_gang : Room := { frames := 5, cells := 0, slots := 0, locals := 113 }
def lpX8_gang_23 (o0 : Nat) (x1 : Int32) (x2 : Int32) (Q : Int32 → zM → Prop) : Nat → Int32 → zM → Prop
  | 0, _, _ => False
  | fu23 + 1, x7, M8 =>
    (((x1 + x2) ≤ x7) → (
    wX8_worst M8 (o0 + 6) 50 (fun r9 =>
    Q r9 M8))) ∧
    ((¬ (x1 + x2) ≤ x7) → (
    (((M8 (o0 + 6) (0 : Int32).toNatClampNeg) ≤ x7) → (
    wX8_worst M8 (o0 + 6) 50 (fun r10 =>
    Q r10 M8))) ∧
    ((¬ (M8 (o0 + 6) (0 : Int32).toNatClampNeg) ≤ x7) → (
    wX8_gangs M8 o0 x7 (fun r11 M12 =>
    wX8_notes M12 o0 (fun M13 =>
    ∀ x14 : Int32, x14 = (((2 : Int32) + ((4 : Int32) * x7)) + (3 : Int32)) →
    vp_in x14 50 ∧
    ∀ M15 : zM, M15 = va_up M13 (o0 + 6) (upd (M13 (o0 + 6)) x14.toNatClampNeg r11) →
    ∀ x16 : Int32, x16 = x7 + (1 : Int32) →
    lpX8_gang_23 o0 x1 x2 Q fu23 x16 M15))))))
def wX8_gang (M : zM) (o0 : Nat) (x1 : Int32) (x2 : Int32) (Q : Int32 → zM → Prop) : Prop :=
    wX8_isPeg M o0 x1 (fun r5 =>
    ((r5 = 0) → (
    Q (-1000001 : Int32) M)) ∧
    ((¬ r5 = 0) → (
    wX8_in M x2 (1 : Int32) (12 : Int32) (fun r6 =>
    ((¬ r6 = 0) → (
    ∃ fu23 : Nat, lpX8_gang_23 o0 x1 x2 Q fu23 x1 M)) ∧
    ((r6 = 0) → (
    Q (-1000001 : Int32) M))))))
set_option maxHeartbeats 4000000 in
set_option maxRecDepth 100000 in
theorem kX8_gang {l : Launch} {D : va_G} {Y : zY} {ad kd : Nat → Nat} {RL : List Nat} {M : zM} {J : zL} {o0 : Nat} {x1 : Int32} {x2 : Int32} (h_o0 : kd o0 = 8) {Q : Int32 → zM → Prop} (hq : wX8_gang M o0 x1 x2 Q) : zCi l yX8_gang wsX8_gang rmX8_gang [.ref (ad o0), .int x1, .int x2] D Y ad kd RL M J (fun r M' J' => Q r M' ∧ J = J') := by
  refine z_meti (cc := cX8_gang) (maxL := 5) (ret := (some .int)) (by decide) rfl (Nat.le_of_ble_eq_true rfl) ?_
  intro p e s m below meth c ls A ar QE hQE hx hb hr hml hown hts hlk hw hl
  have hown : s.vm.findClass RX8 = some m.cls := hown
  have hl : lv_has ls 5 [(0, .ref (ad o0)), (1, .int x1), (2, .int x2)] := hl
  have hC := hw.2.2.2.2.2.1
  have g8 : ∀ w ∈ wsX80, w.before ar s = true := (fun w h => hts w (List.mem_cons_of_mem _ (List.mem_append_right _ h)))
  have q1 := hts _ (List.mem_of_getElem? (i := 1) rfl)
  have q2 := hts _ (List.mem_of_getElem? (i := 2) rfl)
  unfold wX8_gang at hq
  refine lv_aload_n hx hb dX8_gang_0 rfl (lv_at hl 0 rfl) ?_
  refine lv_iload_n hx hb dX8_gang_1 rfl (lv_at hl 1 rfl) ?_
  refine z_cvi ⟨hx, hb, hml, hown, hts⟩ hw h_o0 (kX8_isPeg h_o0 hq) (by decide) rfl (cwV 1 hts gX8_gang_X8_isPeg rfl rfl rfl (by decide +kernel) ⟨Nat.le_of_ble_eq_true rfl, Nat.le_of_ble_eq_true rfl⟩) rfl hl.1 rfl (Nat.le_of_ble_eq_true rfl) dX8_gang_2 ⟨Nat.zero_le _, Nat.zero_le _⟩ (fun r5 M0 J0 H locs hq hw => ?_)
  obtain ⟨hq, rfl, rfl⟩ := hq
  refine lv_if_eq (tgt := 18) hx hb dX8_gang_5 (by decide) (fun hc => ?_) (fun hc => ?_)
  · have hq := hq.1 hc
    refine lv_ldc (v := (-1000001 : Int32)) hx hb hown q1 dX8_gang_18 ?_
    exact z_iret hQE hx hb hr hlk hw dX8_gang_20 ⟨hq, rfl⟩
  · have hq := hq.2 hc
    refine lv_iload_n hx hb dX8_gang_8 rfl (lv_at hl 2 rfl) ?_
    refine lv_iconst (v := (1 : Int32)) hx hb dX8_gang_9 (by decide) ?_
    refine lv_bipush (v := (12 : Int32)) hx hb dX8_gang_10 (by decide) ?_
    refine z_csi ⟨hx, hb, hml, hown, hts⟩ hw (kX8_in  hq) (va_cwS 3 hts gX8_gang_X8_in rfl rfl rfl (by decide +kernel) ⟨Nat.le_of_ble_eq_true rfl, Nat.le_of_ble_eq_true rfl⟩) rfl hl.1 rfl (Nat.le_of_ble_eq_true rfl) dX8_gang_12 ⟨Nat.zero_le _, Nat.zero_le _⟩ (fun r6 M0 J0 H locs hq hw => ?_)
    obtain ⟨hq, rfl, rfl⟩ := hq
    refine lv_if_ne (tgt := 21) hx hb dX8_gang_15 (by decide) (fun hc => ?_) (fun hc => ?_)
    · have hq := hq.1 hc
      refine lv_iload_n hx hb dX8_gang_21 rfl (lv_at hl 1 rfl) ?_
      refine lv_istore_n (lv' := [(3, .int x1), (0, .ref (ad o0)), (1, .int x1), (2, .int x2)]) hx hb dX8_gang_22 rfl hl (by decide) rfl (fun ls hl => ?_)
      obtain ⟨fu23, hq⟩ := hq
      have lp23 : ∀ (fu23 : Nat) (x7 : Int32) (M8 : zM) (H : Heap) (locs : List Loc) (ls : Array Slot), lpX8_gang_23 o0 x1 x2 Q fu23 x7 M8 → zH D Y ad kd RL M8 J A s.heap H locs s → lv_has ls 5 [(0, .ref (ad o0)), (1, .int x1), (2, .int x2), (3, .int x7)] → W p l e rmX8_gang s m ar below meth c H locs 0 0 QE (F0 m 23 ls []) := by
        intro fu23
        induction fu23 with
        | zero => intro x7 M8 H locs ls hq; exact hq.elim
        | succ fu23 ih23 =>
          intro x7 M8 H locs ls hq hw hl
          unfold lpX8_gang_23 at hq
          refine lv_iload_n hx hb dX8_gang_23 rfl (lv_at hl 3 rfl) ?_
          refine lv_iload_n hx hb dX8_gang_24 rfl (lv_at hl 1 rfl) ?_
          refine lv_iload_n hx hb dX8_gang_25 rfl (lv_at hl 2 rfl) ?_
          refine lv_iadd hx hb dX8_gang_26 ?_
          refine lv_icmp_ge (tgt := 71) hx hb dX8_gang_27 (by decide) (fun hc => ?_) (fun hc => ?_)
          · have hq := hq.1 hc
            refine lv_aload_n hx hb dX8_gang_71 rfl (lv_at hl 0 rfl) ?_
            refine zg8_now hx hb g8 hown hw h_o0 q2 dX8_gang_72 ?_
            refine z_csi ⟨hx, hb, hml, hown, hts⟩ hw (kX8_worst (zk_8_6 hC h_o0) hq) (va_cwS 1 hts gX8_gang_X8_worst rfl rfl rfl (by decide +kernel) ⟨Nat.le_of_ble_eq_true rfl, Nat.le_of_ble_eq_true rfl⟩) rfl hl.1 rfl (Nat.le_of_ble_eq_true rfl) dX8_gang_75 ⟨Nat.zero_le _, Nat.zero_le _⟩ (fun r9 M0 J0 H locs hq hw => ?_)
            obtain ⟨hq, rfl, rfl⟩ := hq
            exact z_iret hQE hx hb hr hlk hw dX8_gang_78 ⟨hq, rfl⟩
          · have hq := hq.2 hc
            refine lv_iload_n hx hb dX8_gang_30 rfl (lv_at hl 3 rfl) ?_
            refine lv_aload_n hx hb dX8_gang_31 rfl (lv_at hl 0 rfl) ?_
            refine zg8_now hx hb g8 hown hw h_o0 q2 dX8_gang_32 ?_
            refine lv_iconst (v := (0 : Int32)) hx hb dX8_gang_35 (by decide) ?_
            have hi : vp_in (0 : Int32) 50 := by unfold vp_in; decide
            refine z_iald (n := 50) hx hb hw (zk_8_6 hC h_o0) hi dX8_gang_36 ?_
            refine lv_icmp_ge (tgt := 71) hx hb dX8_gang_37 (by decide) (fun hc => ?_) (fun hc => ?_)
            · have hq := hq.1 hc
              refine lv_aload_n hx hb dX8_gang_71 rfl (lv_at hl 0 rfl) ?_
              refine zg8_now hx hb g8 hown hw h_o0 q2 dX8_gang_72 ?_
              refine z_csi ⟨hx, hb, hml, hown, hts⟩ hw (kX8_worst (zk_8_6 hC h_o0) hq) (va_cwS 1 hts gX8_gang_X8_worst rfl rfl rfl (by decide +kernel) ⟨Nat.le_of_ble_eq_true rfl, Nat.le_of_ble_eq_true rfl⟩) rfl hl.1 rfl (Nat.le_of_ble_eq_true rfl) dX8_gang_75 ⟨Nat.zero_le _, Nat.zero_le _⟩ (fun r10 M0 J0 H locs hq hw => ?_)
              obtain ⟨hq, rfl, rfl⟩ := hq
              exact z_iret hQE hx hb hr hlk hw dX8_gang_78 ⟨hq, rfl⟩
            · have hq := hq.2 hc
              refine lv_aload_n hx hb dX8_gang_40 rfl (lv_at hl 0 rfl) ?_
              refine lv_iload_n hx hb dX8_gang_41 rfl (lv_at hl 3 rfl) ?_
              refine z_cvi ⟨hx, hb, hml, hown, hts⟩ hw h_o0 (kX8_gangs h_o0 hq) (by decide) rfl (cwV 1 hts gX8_gang_X8_gangs rfl rfl rfl (by decide +kernel) ⟨Nat.le_of_ble_eq_true rfl, Nat.le_of_ble_eq_true rfl⟩) rfl hl.1 rfl (Nat.le_of_ble_eq_true rfl) dX8_gang_42 ⟨Nat.zero_le _, Nat.zero_le _⟩ (fun r11 M12 J0 H locs hq hw => ?_)
              obtain ⟨hq, rfl⟩ := hq
              refine lv_istore (lv' := [(4, .int r11), (0, .ref (ad o0)), (1, .int x1), (2, .int x2), (3, .int x7)]) hx hb dX8_gang_45 hl (by decide) rfl (fun ls hl => ?_)
              refine lv_aload_n hx hb dX8_gang_47 rfl (lv_at hl 1 rfl) ?_
              refine z_cvv ⟨hx, hb, hml, hown, hts⟩ hw h_o0 (kX8_notes h_o0 hq) (by decide) rfl (cwV 0 hts gX8_gang_X8_notes rfl rfl rfl (by decide +kernel) ⟨Nat.le_of_ble_eq_true rfl, Nat.le_of_ble_eq_true rfl⟩) rfl hl.1 rfl (Nat.le_of_ble_eq_true rfl) dX8_gang_48 ⟨Nat.zero_le _, Nat.zero_le _⟩ (fun M13 J0 H locs hq hw => ?_)
              obtain ⟨hq, rfl⟩ := hq
              refine lv_aload_n hx hb dX8_gang_51 rfl (lv_at hl 1 rfl) ?_
              refine zg8_now hx hb g8 hown hw h_o0 q2 dX8_gang_52 ?_
              refine lv_iconst (v := (2 : Int32)) hx hb dX8_gang_55 (by decide) ?_
              refine lv_iconst (v := (4 : Int32)) hx hb dX8_gang_56 (by decide) ?_
              refine lv_iload_n hx hb dX8_gang_57 rfl (lv_at hl 4 rfl) ?_
              refine lv_imul hx hb dX8_gang_58 ?_
              refine lv_iadd hx hb dX8_gang_59 ?_
              refine lv_iconst (v := (3 : Int32)) hx hb dX8_gang_60 (by decide) ?_
              refine lv_iadd hx hb dX8_gang_61 ?_
              refine lv_topi (fun x14 e_x14 => ?_)
              have hq := hq x14 e_x14
              refine lv_iload hx hb dX8_gang_62 (lv_at hl 0 rfl) ?_
              obtain ⟨hi, hq⟩ := hq
              refine z_iast (n := 50) hx hb hw (zk_8_6 hC h_o0) hi dX8_gang_64 (fun H locs hw => ?_)
              obtain ⟨M15, e_M15⟩ : ∃ y : zM, y = va_up M13 (o0 + 6) (upd (M13 (o0 + 6)) x14.toNatClampNeg r11) := ⟨_, rfl⟩
              rw [← e_M15] at hw
              have hq := hq M15 e_M15
              obtain ⟨x16, e_x16⟩ : ∃ y : Int32, y = x7 + (1 : Int32) := ⟨_, rfl⟩
              have hq := hq x16 e_x16
              refine lv_iinc (v := x16) (lv' := [(3, .int x16), (4, .int r11), (0, .ref (ad o0)), (1, .int x1), (2, .int x2)]) hx hb dX8_gang_65 hl (k := 4) rfl (by rw [e_x16]; rfl) (by decide) rfl (fun ls hl => ?_)
              refine lv_goto (tgt := 23) hx hb dX8_gang_68 (by decide) ?_
              exact ih23 x16 M15 _ _ _ hq hw (lv_sub hl [2, 3, 4, 0] rfl)
      exact lp23 fu23 x1 M _ _ _ hq hw (lv_sub hl [1, 2, 3, 0] rfl)
    · have hq := hq.2 hc
      refine lv_ldc (v := (-1000001 : Int32)) hx hb hown q1 dX8_gang_18 ?_
      exact z_iret hQE hx hb hr hlk hw dX8_gang_20 ⟨hq, rfl⟩
set_option maxRecDepth 20000 in
theorem ggX8_read_X8_isPeg : GoodIn wsX8_read wsX8_isPeg := goodIn_r _ [7, 2, 8, 9, 6, 10, 20, 21, 22, 23, 24, 25, 26, 27, 28, 29, 30, 31, 32, 33, 34, 35, 36, 37, 38, 39, 40, 41, 42, 43, 44, 45] (by decide +kernel) (by decide +kernel)
set_option maxRecDepth 20000 in
theorem gX8_read_X8_isPeg : GoodIn wsX8_read (wsV RX8 163 RX8 yX8_isPeg wsX8_isPeg) := goodIn_app (goodIn_of _ (by decide +kernel)) ggX8_read_X8_isPeg
set_option maxRecDepth 20000 in
theorem ggX8_read_X8_in : GoodIn wsX8_read wsX8_in := goodIn_r _ [10] (by decide +kernel) (by decide +kernel)
set_option maxRecDepth 20000 in
theorem gX8_read_X8_in : GoodIn wsX8_read (va_wsS RX8 59 yX8_in wsX8_in) := goodIn_app (goodIn_of _ (by decide +kernel)) ggX8_read_X8_in
set_option maxRecDepth 20000 in
theorem ggX8_read_X8_notes : GoodIn wsX8_read wsX8_notes := goodIn_r _ [14, 15, 16, 2, 17, 18, 6, 19, 20, 21, 22, 23, 24, 25, 26, 27, 28, 29, 30, 31, 32, 33, 34, 35, 36, 37, 38, 39, 40, 41, 42, 43, 44, 45] (by decide +kernel) (by decide +kernel)
set_option maxRecDepth 20000 in
theorem gX8_read_X8_notes : GoodIn wsX8_read (wsV RX8 170 RX8 yX8_notes wsX8_notes) := goodIn_app (goodIn_of _ (by decide +kernel)) ggX8_read_X8_notes
theorem dX8_read_0 : decode cX8_read 0 = .ok (.aload_n 0, 1) := by decide +kernel
theorem dX8_read_1 : decode cX8_read 1 = .ok (.iload_n 1, 1) := by decide +kernel
theorem dX8_read_2 : decode cX8_read 2 = .ok (.invokevirtual 163, 3) := by decide +kernel
theorem dX8_read_5 : decode cX8_read 5 = .ok (.ifCond .eq 13, 3) := by decide +kernel
theorem dX8_read_8 : decode cX8_read 8 = .ok (.iload_n 2, 1) := by decide +kernel
theorem dX8_read_9 : decode cX8_read 9 = .ok (.iconst 0, 1) := by decide +kernel
theorem dX8_read_10 : decode cX8_read 10 = .ok (.bipush 60, 2) := by decide +kernel
theorem dX8_read_12 : decode cX8_read 12 = .ok (.invokestatic 59, 3) := by decide +kernel
theorem dX8_read_15 : decode cX8_read 15 = .ok (.ifCond .ne 6, 3) := by decide +kernel
theorem dX8_read_18 : decode cX8_read 18 = .ok (.ldc 67, 2) := by decide +kernel
theorem dX8_read_20 : decode cX8_read 20 = .ok (.ireturn, 1) := by decide +kernel
theorem dX8_read_21 : decode cX8_read 21 = .ok (.aload_n 0, 1) := by decide +kernel
theorem dX8_read_22 : decode cX8_read 22 = .ok (.invokevirtual 170, 3) := by decide +kernel
theorem dX8_read_25 : decode cX8_read 25 = .ok (.aload_n 0, 1) := by decide +kernel
theorem dX8_read_26 : decode cX8_read 26 = .ok (.getfield 25, 3) := by decide +kernel
theorem dX8_read_29 : decode cX8_read 29 = .ok (.iconst 2, 1) := by decide +kernel
theorem dX8_read_30 : decode cX8_read 30 = .ok (.iconst 4, 1) := by decide +kernel
theorem dX8_read_31 : decode cX8_read 31 = .ok (.iload_n 1, 1) := by decide +kernel
theorem dX8_read_32 : decode cX8_read 32 = .ok (.imul, 1) := by decide +kernel
theorem dX8_read_33 : decode cX8_read 33 = .ok (.iadd, 1) := by decide +kernel
theorem dX8_read_34 : decode cX8_read 34 = .ok (.iconst 1, 1) := by decide +kernel
theorem dX8_read_35 : decode cX8_read 35 = .ok (.iadd, 1) := by decide +kernel
theorem dX8_read_36 : decode cX8_read 36 = .ok (.iaload, 1) := by decide +kernel
theorem dX8_read_37 : decode cX8_read 37 = .ok (.istore_n 3, 1) := by decide +kernel
theorem dX8_read_38 : decode cX8_read 38 = .ok (.aload_n 0, 1) := by decide +kernel
theorem dX8_read_39 : decode cX8_read 39 = .ok (.getfield 25, 3) := by decide +kernel
theorem dX8_read_42 : decode cX8_read 42 = .ok (.iconst 2, 1) := by decide +kernel
theorem dX8_read_43 : decode cX8_read 43 = .ok (.iconst 4, 1) := by decide +kernel
theorem dX8_read_44 : decode cX8_read 44 = .ok (.iload_n 1, 1) := by decide +kernel
theorem dX8_read_45 : decode cX8_read 45 = .ok (.imul, 1) := by decide +kernel
theorem dX8_read_46 : decode cX8_read 46 = .ok (.iadd, 1) := by decide +kernel
theorem dX8_read_47 : decode cX8_read 47 = .ok (.iconst 1, 1) := by decide +kernel
theorem dX8_read_48 : decode cX8_read 48 = .ok (.iadd, 1) := by decide +kernel
theorem dX8_read_49 : decode cX8_read 49 = .ok (.iload_n 2, 1) := by decide +kernel
theorem dX8_read_50 : decode cX8_read 50 = .ok (.iastore, 1) := by decide +kernel
theorem dX8_read_51 : decode cX8_read 51 = .ok (.iload_n 3, 1) := by decide +kernel
theorem dX8_read_52 : decode cX8_read 52 = .ok (.ireturn, 1) := by decide +kernel
def rmX8_read : Room := { frames := 2, cells := 0, slots := 0, locals := 45 }
def wX8_read (M : zM) (o0 : Nat) (x1 : Int32) (x2 : Int32) (Q : Int32 → zM → Prop) : Prop :=
    wX8_isPeg M o0 x1 (fun r5 =>
    ((r5 = 0) → (
    Q (-1000001 : Int32) M)) ∧
    ((¬ r5 = 0) → (
    wX8_in M x2 (0 : Int32) (60 : Int32) (fun r6 =>
    ((¬ r6 = 0) → (
    wX8_notes M o0 (fun M7 =>
    ∀ x8 : Int32, x8 = (((2 : Int32) + ((4 : Int32) * x1)) + (1 : Int32)) →
    vp_in x8 50 ∧
    ∀ x9 : Int32, x9 = (((2 : Int32) + ((4 : Int32) * x1)) + (1 : Int32)) →
    vp_in x9 50 ∧
    ∀ M10 : zM, M10 = va_up M7 (o0 + 6) (upd (M7 (o0 + 6)) x9.toNatClampNeg x2) →
    Q (M7 (o0 + 6) x8.toNatClampNeg) M10))) ∧
    ((r6 = 0) → (
    Q (-1000001 : Int32) M))))))
set_option maxHeartbeats 4000000 in
set_option maxRecDepth 100000 in
theorem kX8_read {l : Launch} {D : va_G} {Y : zY} {ad kd : Nat → Nat} {RL : List Nat} {M : zM} {J : zL} {o0 : Nat} {x1 : Int32} {x2 : Int32} (h_o0 : kd o0 = 8) {Q : Int32 → zM → Prop} (hq : wX8_read M o0 x1 x2 Q) : zCi l yX8_read wsX8_read rmX8_read [.ref (ad o0), .int x1, .int x2] D Y ad kd RL M J (fun r M' J' => Q r M' ∧ J = J') := by
  refine z_meti (cc := cX8_read) (maxL := 4) (ret := (some .int)) (by decide) rfl (Nat.le_of_ble_eq_true rfl) ?_
  intro p e s m below meth c ls A ar QE hQE hx hb hr hml hown hts hlk hw hl
  have hown : s.vm.findClass RX8 = some m.cls := hown
  have hl : lv_has ls 4 [(0, .ref (ad o0)), (1, .int x1), (2, .int x2)] := hl
  have hC := hw.2.2.2.2.2.1
  have g8 : ∀ w ∈ wsX80, w.before ar s = true := (fun w h => hts w (List.mem_cons_of_mem _ (List.mem_append_right _ h)))
  have q1 := hts _ (List.mem_of_getElem? (i := 1) rfl)
  have q2 := hts _ (List.mem_of_getElem? (i := 2) rfl)
  unfold wX8_read at hq
  refine lv_aload_n hx hb dX8_read_0 rfl (lv_at hl 0 rfl) ?_
  refine lv_iload_n hx hb dX8_read_1 rfl (lv_at hl 1 rfl) ?_
  refine z_cvi ⟨hx, hb, hml, hown, hts⟩ hw h_o0 (kX8_isPeg h_o0 hq) (by decide) rfl (cwV 1 hts gX8_read_X8_isPeg rfl rfl rfl (by decide +kernel) ⟨Nat.le_of_ble_eq_true rfl, Nat.le_of_ble_eq_true rfl⟩) rfl hl.1 rfl (Nat.le_of_ble_eq_true rfl) dX8_read_2 ⟨Nat.zero_le _, Nat.zero_le _⟩ (fun r5 M0 J0 H locs hq hw => ?_)
  obtain ⟨hq, rfl, rfl⟩ := hq
  refine lv_if_eq (tgt := 18) hx hb dX8_read_5 (by decide) (fun hc => ?_) (fun hc => ?_)
  · have hq := hq.1 hc
    refine lv_ldc (v := (-1000001 : Int32)) hx hb hown q1 dX8_read_18 ?_
    exact z_iret hQE hx hb hr hlk hw dX8_read_20 ⟨hq, rfl⟩
  · have hq := hq.2 hc
    refine lv_iload_n hx hb dX8_read_8 rfl (lv_at hl 2 rfl) ?_
    refine lv_iconst (v := (0 : Int32)) hx hb dX8_read_9 (by decide) ?_
    refine lv_bipush (v := (60 : Int32)) hx hb dX8_read_10 (by decide) ?_
    refine z_csi ⟨hx, hb, hml, hown, hts⟩ hw (kX8_in  hq) (va_cwS 3 hts gX8_read_X8_in rfl rfl rfl (by decide +kernel) ⟨Nat.le_of_ble_eq_true rfl, Nat.le_of_ble_eq_true rfl⟩) rfl hl.1 rfl (Nat.le_of_ble_eq_true rfl) dX8_read_12 ⟨Nat.zero_le _, Nat.zero_le _⟩ (fun r6 M0 J0 H locs hq hw => ?_)
    obtain ⟨hq, rfl, rfl⟩ := hq
    refine lv_if_ne (tgt := 21) hx hb dX8_read_15 (by decide) (fun hc => ?_) (fun hc => ?_)
    · have hq := hq.1 hc
      refine lv_aload_n hx hb dX8_read_21 rfl (lv_at hl 0 rfl) ?_
      refine z_cvv ⟨hx, hb, hml, hown, hts⟩ hw h_o0 (kX8_notes h_o0 hq) (by decide) rfl (cwV 0 hts gX8_read_X8_notes rfl rfl rfl (by decide +kernel) ⟨Nat.le_of_ble_eq_true rfl, Nat.le_of_ble_eq_true rfl⟩) rfl hl.1 rfl (Nat.le_of_ble_eq_true rfl) dX8_read_22 ⟨Nat.zero_le _, Nat.zero_le _⟩ (fun M7 J0 H locs hq hw => ?_)
      obtain ⟨hq, rfl⟩ := hq
      refine lv_aload_n hx hb dX8_read_25 rfl (lv_at hl 0 rfl) ?_
      refine zg8_now hx hb g8 hown hw h_o0 q2 dX8_read_26 ?_
      refine lv_iconst (v := (2 : Int32)) hx hb dX8_read_29 (by decide) ?_
      refine lv_iconst (v := (4 : Int32)) hx hb dX8_read_30 (by decide) ?_
      refine lv_iload_n hx hb dX8_read_31 rfl (lv_at hl 1 rfl) ?_
      refine lv_imul hx hb dX8_read_32 ?_
      refine lv_iadd hx hb dX8_read_33 ?_
      refine lv_iconst (v := (1 : Int32)) hx hb dX8_read_34 (by decide) ?_
      refine lv_iadd hx hb dX8_read_35 ?_
      refine lv_topi (fun x8 e_x8 => ?_)
      have hq := hq x8 e_x8
      obtain ⟨hi, hq⟩ := hq
      refine z_iald (n := 50) hx hb hw (zk_8_6 hC h_o0) hi dX8_read_36 ?_
      refine lv_istore_n (lv' := [(3, .int (M7 (o0 + 6) x8.toNatClampNeg)), (0, .ref (ad o0)), (1, .int x1), (2, .int x2)]) hx hb dX8_read_37 rfl hl (by decide) rfl (fun ls hl => ?_)
      refine lv_aload_n hx hb dX8_read_38 rfl (lv_at hl 1 rfl) ?_
      refine zg8_now hx hb g8 hown hw h_o0 q2 dX8_read_39 ?_
      refine lv_iconst (v := (2 : Int32)) hx hb dX8_read_42 (by decide) ?_
      refine lv_iconst (v := (4 : Int32)) hx hb dX8_read_43 (by decide) ?_
      refine lv_iload_n hx hb dX8_read_44 rfl (lv_at hl 2 rfl) ?_
      refine lv_imul hx hb dX8_read_45 ?_
      refine lv_iadd hx hb dX8_read_46 ?_
      refine lv_iconst (v := (1 : Int32)) hx hb dX8_read_47 (by decide) ?_
      refine lv_iadd hx hb dX8_read_48 ?_
      refine lv_topi (fun x9 e_x9 => ?_)
      have hq := hq x9 e_x9
      refine lv_iload_n hx hb dX8_read_49 rfl (lv_at hl 3 rfl) ?_
      obtain ⟨hi, hq⟩ := hq
      refine z_iast (n := 50) hx hb hw (zk_8_6 hC h_o0) hi dX8_read_50 (fun H locs hw => ?_)
      obtain ⟨M10, e_M10⟩ : ∃ y : zM, y = va_up M7 (o0 + 6) (upd (M7 (o0 + 6)) x9.toNatClampNeg x2) := ⟨_, rfl⟩
      rw [← e_M10] at hw
      have hq := hq M10 e_M10
      refine lv_iload_n hx hb dX8_read_51 rfl (lv_at hl 0 rfl) ?_
      exact z_iret hQE hx hb hr hlk hw dX8_read_52 ⟨hq, rfl⟩
    · have hq := hq.2 hc
      refine lv_ldc (v := (-1000001 : Int32)) hx hb hown q1 dX8_read_18 ?_
      exact z_iret hQE hx hb hr hlk hw dX8_read_20 ⟨hq, rfl⟩
set_option maxRecDepth 20000 in
theorem ggX8_bound_X8_isPeg : GoodIn wsX8_bound wsX8_isPeg := goodIn_r _ [7, 2, 8, 9, 6, 10, 23, 24, 25, 26, 27, 28, 29, 30, 31, 32, 33, 34, 35, 36, 37, 38, 39, 40, 41, 42, 43, 44, 45, 46, 47, 48] (by decide +kernel) (by decide +kernel)
set_option maxRecDepth 20000 in
theorem gX8_bound_X8_isPeg : GoodIn wsX8_bound (wsV RX8 163 RX8 yX8_isPeg wsX8_isPeg) := goodIn_app (goodIn_of _ (by decide +kernel)) ggX8_bound_X8_isPeg
set_option maxRecDepth 20000 in
theorem ggX8_bound_X8_in : GoodIn wsX8_bound wsX8_in := goodIn_r _ [10] (by decide +kernel) (by decide +kernel)
set_option maxRecDepth 20000 in
theorem gX8_bound_X8_in : GoodIn wsX8_bound (va_wsS RX8 59 yX8_in wsX8_in) := goodIn_app (goodIn_of _ (by decide +kernel)) ggX8_bound_X8_in
set_option maxRecDepth 20000 in
theorem ggX8_bound_X8_notes : GoodIn wsX8_bound wsX8_notes := goodIn_r _ [14, 15, 16, 2, 17, 18, 6, 19, 23, 24, 25, 26, 27, 28, 29, 30, 31, 32, 33, 34, 35, 36, 37, 38, 39, 40, 41, 42, 43, 44, 45, 46, 47, 48] (by decide +kernel) (by decide +kernel)
set_option maxRecDepth 20000 in
theorem gX8_bound_X8_notes : GoodIn wsX8_bound (wsV RX8 170 RX8 yX8_notes wsX8_notes) := goodIn_app (goodIn_of _ (by decide +kernel)) ggX8_bound_X8_notes
set_option maxRecDepth 20000 in
theorem ggX8_bound_X8_reach : GoodIn wsX8_bound wsX8_reach := goodIn_r _ [22] (by decide +kernel) (by decide +kernel)
set_option maxRecDepth 20000 in
theorem gX8_bound_X8_reach : GoodIn wsX8_bound (va_wsS RX8 166 yX8_reach wsX8_reach) := goodIn_app (goodIn_of _ (by decide +kernel)) ggX8_bound_X8_reach
theorem dX8_bound_0 : decode cX8_bound 0 = .ok (.aload_n 0, 1) := by decide +kernel
theorem dX8_bound_1 : decode cX8_bound 1 = .ok (.iload_n 1, 1) := by decide +kernel
theorem dX8_bound_2 : decode cX8_bound 2 = .ok (.invokevirtual 163, 3) := by decide +kernel
theorem dX8_bound_5 : decode cX8_bound 5 = .ok (.ifCond .eq 12, 3) := by decide +kernel
theorem dX8_bound_8 : decode cX8_bound 8 = .ok (.iload_n 2, 1) := by decide +kernel
theorem dX8_bound_9 : decode cX8_bound 9 = .ok (.iconst 0, 1) := by decide +kernel
theorem dX8_bound_10 : decode cX8_bound 10 = .ok (.iconst 3, 1) := by decide +kernel
theorem dX8_bound_11 : decode cX8_bound 11 = .ok (.invokestatic 59, 3) := by decide +kernel
theorem dX8_bound_14 : decode cX8_bound 14 = .ok (.ifCond .ne 6, 3) := by decide +kernel
theorem dX8_bound_17 : decode cX8_bound 17 = .ok (.ldc 67, 2) := by decide +kernel
theorem dX8_bound_19 : decode cX8_bound 19 = .ok (.ireturn, 1) := by decide +kernel
theorem dX8_bound_20 : decode cX8_bound 20 = .ok (.aload_n 0, 1) := by decide +kernel
theorem dX8_bound_21 : decode cX8_bound 21 = .ok (.invokevirtual 170, 3) := by decide +kernel
theorem dX8_bound_24 : decode cX8_bound 24 = .ok (.aload_n 0, 1) := by decide +kernel
theorem dX8_bound_25 : decode cX8_bound 25 = .ok (.getfield 25, 3) := by decide +kernel
theorem dX8_bound_28 : decode cX8_bound 28 = .ok (.iconst 2, 1) := by decide +kernel
theorem dX8_bound_29 : decode cX8_bound 29 = .ok (.iconst 4, 1) := by decide +kernel
theorem dX8_bound_30 : decode cX8_bound 30 = .ok (.iload_n 1, 1) := by decide +kernel
theorem dX8_bound_31 : decode cX8_bound 31 = .ok (.imul, 1) := by decide +kernel
theorem dX8_bound_32 : decode cX8_bound 32 = .ok (.iadd, 1) := by decide +kernel
theorem dX8_bound_33 : decode cX8_bound 33 = .ok (.iconst 2, 1) := by decide +kernel
theorem dX8_bound_34 : decode cX8_bound 34 = .ok (.iadd, 1) := by decide +kernel
theorem dX8_bound_35 : decode cX8_bound 35 = .ok (.iaload, 1) := by decide +kernel
theorem dX8_bound_36 : decode cX8_bound 36 = .ok (.istore_n 3, 1) := by decide +kernel
theorem dX8_bound_37 : decode cX8_bound 37 = .ok (.aload_n 0, 1) := by decide +kernel
theorem dX8_bound_38 : decode cX8_bound 38 = .ok (.getfield 25, 3) := by decide +kernel
theorem dX8_bound_41 : decode cX8_bound 41 = .ok (.iconst 2, 1) := by decide +kernel
theorem dX8_bound_42 : decode cX8_bound 42 = .ok (.iconst 4, 1) := by decide +kernel
theorem dX8_bound_43 : decode cX8_bound 43 = .ok (.iload_n 1, 1) := by decide +kernel
theorem dX8_bound_44 : decode cX8_bound 44 = .ok (.imul, 1) := by decide +kernel
theorem dX8_bound_45 : decode cX8_bound 45 = .ok (.iadd, 1) := by decide +kernel
theorem dX8_bound_46 : decode cX8_bound 46 = .ok (.iconst 2, 1) := by decide +kernel
theorem dX8_bound_47 : decode cX8_bound 47 = .ok (.iadd, 1) := by decide +kernel
theorem dX8_bound_48 : decode cX8_bound 48 = .ok (.iload_n 2, 1) := by decide +kernel
theorem dX8_bound_49 : decode cX8_bound 49 = .ok (.iastore, 1) := by decide +kernel
theorem dX8_bound_50 : decode cX8_bound 50 = .ok (.aload_n 0, 1) := by decide +kernel
theorem dX8_bound_51 : decode cX8_bound 51 = .ok (.getfield 25, 3) := by decide +kernel
theorem dX8_bound_54 : decode cX8_bound 54 = .ok (.iload_n 1, 1) := by decide +kernel
theorem dX8_bound_55 : decode cX8_bound 55 = .ok (.invokestatic 166, 3) := by decide +kernel
theorem dX8_bound_58 : decode cX8_bound 58 = .ok (.istore 4, 2) := by decide +kernel
theorem dX8_bound_60 : decode cX8_bound 60 = .ok (.aload_n 0, 1) := by decide +kernel
theorem dX8_bound_61 : decode cX8_bound 61 = .ok (.getfield 25, 3) := by decide +kernel
theorem dX8_bound_64 : decode cX8_bound 64 = .ok (.iconst 2, 1) := by decide +kernel
theorem dX8_bound_65 : decode cX8_bound 65 = .ok (.iconst 4, 1) := by decide +kernel
theorem dX8_bound_66 : decode cX8_bound 66 = .ok (.iload_n 1, 1) := by decide +kernel
theorem dX8_bound_67 : decode cX8_bound 67 = .ok (.imul, 1) := by decide +kernel
theorem dX8_bound_68 : decode cX8_bound 68 = .ok (.iadd, 1) := by decide +kernel
theorem dX8_bound_69 : decode cX8_bound 69 = .ok (.iconst 3, 1) := by decide +kernel
theorem dX8_bound_70 : decode cX8_bound 70 = .ok (.iadd, 1) := by decide +kernel
theorem dX8_bound_71 : decode cX8_bound 71 = .ok (.iaload, 1) := by decide +kernel
theorem dX8_bound_72 : decode cX8_bound 72 = .ok (.istore 5, 2) := by decide +kernel
theorem dX8_bound_74 : decode cX8_bound 74 = .ok (.aload_n 0, 1) := by decide +kernel
theorem dX8_bound_75 : decode cX8_bound 75 = .ok (.getfield 25, 3) := by decide +kernel
theorem dX8_bound_78 : decode cX8_bound 78 = .ok (.iconst 2, 1) := by decide +kernel
theorem dX8_bound_79 : decode cX8_bound 79 = .ok (.iconst 4, 1) := by decide +kernel
theorem dX8_bound_80 : decode cX8_bound 80 = .ok (.iload_n 1, 1) := by decide +kernel
theorem dX8_bound_81 : decode cX8_bound 81 = .ok (.imul, 1) := by decide +kernel
theorem dX8_bound_82 : decode cX8_bound 82 = .ok (.iadd, 1) := by decide +kernel
theorem dX8_bound_83 : decode cX8_bound 83 = .ok (.iconst 3, 1) := by decide +kernel
theorem dX8_bound_84 : decode cX8_bound 84 = .ok (.iadd, 1) := by decide +kernel
theorem dX8_bound_85 : decode cX8_bound 85 = .ok (.iload 5, 2) := by decide +kernel
theorem dX8_bound_87 : decode cX8_bound 87 = .ok (.iload 4, 2) := by decide +kernel
theorem dX8_bound_89 : decode cX8_bound 89 = .ok (.if_icmp .le 8, 3) := by decide +kernel
theorem dX8_bound_92 : decode cX8_bound 92 = .ok (.iload 4, 2) := by decide +kernel
theorem dX8_bound_94 : decode cX8_bound 94 = .ok (.goto 19, 3) := by decide +kernel
theorem dX8_bound_97 : decode cX8_bound 97 = .ok (.iload 5, 2) := by decide +kernel
theorem dX8_bound_99 : decode cX8_bound 99 = .ok (.iload 4, 2) := by decide +kernel
theorem dX8_bound_101 : decode cX8_bound 101 = .ok (.ineg, 1) := by decide +kernel
theorem dX8_bound_102 : decode cX8_bound 102 = .ok (.if_icmp .ge 9, 3) := by decide +kernel
theorem dX8_bound_105 : decode cX8_bound 105 = .ok (.iload 4, 2) := by decide +kernel
theorem dX8_bound_107 : decode cX8_bound 107 = .ok (.ineg, 1) := by decide +kernel
theorem dX8_bound_108 : decode cX8_bound 108 = .ok (.goto 5, 3) := by decide +kernel
theorem dX8_bound_111 : decode cX8_bound 111 = .ok (.iload 5, 2) := by decide +kernel
theorem dX8_bound_113 : decode cX8_bound 113 = .ok (.iastore, 1) := by decide +kernel
theorem dX8_bound_114 : decode cX8_bound 114 = .ok (.iload_n 3, 1) := by decide +kernel
theorem dX8_bound_115 : decode cX8_bound 115 = .ok (.ireturn, 1) := by decide +kernel
def rmX8_bound : Room := { frames := 2, cells := 0, slots := 0, locals := 45 }
def wX8_bound (M : zM) (o0 : Nat) (x1 : Int32) (x2 : Int32) (Q : Int32 → zM → Prop) : Prop :=
    wX8_isPeg M o0 x1 (fun r5 =>
    ((r5 = 0) → (
    Q (-1000001 : Int32) M)) ∧
    ((¬ r5 = 0) → (
    wX8_in M x2 (0 : Int32) (3 : Int32) (fun r6 =>
    ((¬ r6 = 0) → (
    wX8_notes M o0 (fun M7 =>
    ∀ x8 : Int32, x8 = (((2 : Int32) + ((4 : Int32) * x1)) + (2 : Int32)) →
    vp_in x8 50 ∧
    ∀ x9 : Int32, x9 = (((2 : Int32) + ((4 : Int32) * x1)) + (2 : Int32)) →
    vp_in x9 50 ∧
    ∀ M10 : zM, M10 = va_up M7 (o0 + 6) (upd (M7 (o0 + 6)) x9.toNatClampNeg x2) →
    wX8_reach M10 (o0 + 6) 50 x1 (fun r11 =>
    ∀ x12 : Int32, x12 = (((2 : Int32) + ((4 : Int32) * x1)) + (3 : Int32)) →
    vp_in x12 50 ∧
    ∀ x13 : Int32, x13 = (((2 : Int32) + ((4 : Int32) * x1)) + (3 : Int32)) →
    (((M10 (o0 + 6) x12.toNatClampNeg) ≤ r11) → (
    (((-r11) ≤ (M10 (o0 + 6) x12.toNatClampNeg)) → (
    vp_in x13 50 ∧
    ∀ M14 : zM, M14 = va_up M10 (o0 + 6) (upd (M10 (o0 + 6)) x13.toNatClampNeg (M10 (o0 + 6) x12.toNatClampNeg)) →
    Q (M7 (o0 + 6) x8.toNatClampNeg) M14)) ∧
    ((¬ (-r11) ≤ (M10 (o0 + 6) x12.toNatClampNeg)) → (
    vp_in x13 50 ∧
    ∀ M15 : zM, M15 = va_up M10 (o0 + 6) (upd (M10 (o0 + 6)) x13.toNatClampNeg (-r11)) →
    Q (M7 (o0 + 6) x8.toNatClampNeg) M15)))) ∧
    ((¬ (M10 (o0 + 6) x12.toNatClampNeg) ≤ r11) → (
    vp_in x13 50 ∧
    ∀ M16 : zM, M16 = va_up M10 (o0 + 6) (upd (M10 (o0 + 6)) x13.toNatClampNeg r11) →
    Q (M7 (o0 + 6) x8.toNatClampNeg) M16)))))) ∧
    ((r6 = 0) → (
    Q (-1000001 : Int32) M))))))
set_option maxHeartbeats 4000000 in
set_option maxRecDepth 100000 in
theorem kX8_bound {l : Launch} {D : va_G} {Y : zY} {ad kd : Nat → Nat} {RL : List Nat} {M : zM} {J : zL} {o0 : Nat} {x1 : Int32} {x2 : Int32} (h_o0 : kd o0 = 8) {Q : Int32 → zM → Prop} (hq : wX8_bound M o0 x1 x2 Q) : zCi l yX8_bound wsX8_bound rmX8_bound [.ref (ad o0), .int x1, .int x2] D Y ad kd RL M J (fun r M' J' => Q r M' ∧ J = J') := by
  refine z_meti (cc := cX8_bound) (maxL := 6) (ret := (some .int)) (by decide) rfl (Nat.le_of_ble_eq_true rfl) ?_
  intro p e s m below meth c ls A ar QE hQE hx hb hr hml hown hts hlk hw hl
  have hown : s.vm.findClass RX8 = some m.cls := hown
  have hl : lv_has ls 6 [(0, .ref (ad o0)), (1, .int x1), (2, .int x2)] := hl
  have hC := hw.2.2.2.2.2.1
  have g8 : ∀ w ∈ wsX80, w.before ar s = true := (fun w h => hts w (List.mem_cons_of_mem _ (List.mem_append_right _ h)))
  have q1 := hts _ (List.mem_of_getElem? (i := 1) rfl)
  have q2 := hts _ (List.mem_of_getElem? (i := 2) rfl)
  unfold wX8_bound at hq
  refine lv_aload_n hx hb dX8_bound_0 rfl (lv_at hl 0 rfl) ?_
  refine lv_iload_n hx hb dX8_bound_1 rfl (lv_at hl 1 rfl) ?_
  refine z_cvi ⟨hx, hb, hml, hown, hts⟩ hw h_o0 (kX8_isPeg h_o0 hq) (by decide) rfl (cwV 1 hts gX8_bound_X8_isPeg rfl rfl rfl (by decide +kernel) ⟨Nat.le_of_ble_eq_true rfl, Nat.le_of_ble_eq_true rfl⟩) rfl hl.1 rfl (Nat.le_of_ble_eq_true rfl) dX8_bound_2 ⟨Nat.zero_le _, Nat.zero_le _⟩ (fun r5 M0 J0 H locs hq hw => ?_)
  obtain ⟨hq, rfl, rfl⟩ := hq
  refine lv_if_eq (tgt := 17) hx hb dX8_bound_5 (by decide) (fun hc => ?_) (fun hc => ?_)
  · have hq := hq.1 hc
    refine lv_ldc (v := (-1000001 : Int32)) hx hb hown q1 dX8_bound_17 ?_
    exact z_iret hQE hx hb hr hlk hw dX8_bound_19 ⟨hq, rfl⟩
  · have hq := hq.2 hc
    refine lv_iload_n hx hb dX8_bound_8 rfl (lv_at hl 2 rfl) ?_
    refine lv_iconst (v := (0 : Int32)) hx hb dX8_bound_9 (by decide) ?_
    refine lv_iconst (v := (3 : Int32)) hx hb dX8_bound_10 (by decide) ?_
    refine z_csi ⟨hx, hb, hml, hown, hts⟩ hw (kX8_in  hq) (va_cwS 3 hts gX8_bound_X8_in rfl rfl rfl (by decide +kernel) ⟨Nat.le_of_ble_eq_true rfl, Nat.le_of_ble_eq_true rfl⟩) rfl hl.1 rfl (Nat.le_of_ble_eq_true rfl) dX8_bound_11 ⟨Nat.zero_le _, Nat.zero_le _⟩ (fun r6 M0 J0 H locs hq hw => ?_)
    obtain ⟨hq, rfl, rfl⟩ := hq
    refine lv_if_ne (tgt := 20) hx hb dX8_bound_14 (by decide) (fun hc => ?_) (fun hc => ?_)
    · have hq := hq.1 hc
      refine lv_aload_n hx hb dX8_bound_20 rfl (lv_at hl 0 rfl) ?_
      refine z_cvv ⟨hx, hb, hml, hown, hts⟩ hw h_o0 (kX8_notes h_o0 hq) (by decide) rfl (cwV 0 hts gX8_bound_X8_notes rfl rfl rfl (by decide +kernel) ⟨Nat.le_of_ble_eq_true rfl, Nat.le_of_ble_eq_true rfl⟩) rfl hl.1 rfl (Nat.le_of_ble_eq_true rfl) dX8_bound_21 ⟨Nat.zero_le _, Nat.zero_le _⟩ (fun M7 J0 H locs hq hw => ?_)
      obtain ⟨hq, rfl⟩ := hq
      refine lv_aload_n hx hb dX8_bound_24 rfl (lv_at hl 0 rfl) ?_
      refine zg8_now hx hb g8 hown hw h_o0 q2 dX8_bound_25 ?_
      refine lv_iconst (v := (2 : Int32)) hx hb dX8_bound_28 (by decide) ?_
      refine lv_iconst (v := (4 : Int32)) hx hb dX8_bound_29 (by decide) ?_
      refine lv_iload_n hx hb dX8_bound_30 rfl (lv_at hl 1 rfl) ?_
      refine lv_imul hx hb dX8_bound_31 ?_
      refine lv_iadd hx hb dX8_bound_32 ?_
      refine lv_iconst (v := (2 : Int32)) hx hb dX8_bound_33 (by decide) ?_
      refine lv_iadd hx hb dX8_bound_34 ?_
      refine lv_topi (fun x8 e_x8 => ?_)
      have hq := hq x8 e_x8
      obtain ⟨hi, hq⟩ := hq
      refine z_iald (n := 50) hx hb hw (zk_8_6 hC h_o0) hi dX8_bound_35 ?_
      refine lv_istore_n (lv' := [(3, .int (M7 (o0 + 6) x8.toNatClampNeg)), (0, .ref (ad o0)), (1, .int x1), (2, .int x2)]) hx hb dX8_bound_36 rfl hl (by decide) rfl (fun ls hl => ?_)
      refine lv_aload_n hx hb dX8_bound_37 rfl (lv_at hl 1 rfl) ?_
      refine zg8_now hx hb g8 hown hw h_o0 q2 dX8_bound_38 ?_
      refine lv_iconst (v := (2 : Int32)) hx hb dX8_bound_41 (by decide) ?_
      refine lv_iconst (v := (4 : Int32)) hx hb dX8_bound_42 (by decide) ?_
      refine lv_iload_n hx hb dX8_bound_43 rfl (lv_at hl 2 rfl) ?_
      refine lv_imul hx hb dX8_bound_44 ?_
      refine lv_iadd hx hb dX8_bound_45 ?_
      refine lv_iconst (v := (2 : Int32)) hx hb dX8_bound_46 (by decide) ?_
      refine lv_iadd hx hb dX8_bound_47 ?_
      refine lv_topi (fun x9 e_x9 => ?_)
      have hq := hq x9 e_x9
      refine lv_iload_n hx hb dX8_bound_48 rfl (lv_at hl 3 rfl) ?_
      obtain ⟨hi, hq⟩ := hq
      refine z_iast (n := 50) hx hb hw (zk_8_6 hC h_o0) hi dX8_bound_49 (fun H locs hw => ?_)
      obtain ⟨M10, e_M10⟩ : ∃ y : zM, y = va_up M7 (o0 + 6) (upd (M7 (o0 + 6)) x9.toNatClampNeg x2) := ⟨_, rfl⟩
      rw [← e_M10] at hw
      have hq := hq M10 e_M10
      refine lv_aload_n hx hb dX8_bound_50 rfl (lv_at hl 1 rfl) ?_
      refine zg8_now hx hb g8 hown hw h_o0 q2 dX8_bound_51 ?_
      refine lv_iload_n hx hb dX8_bound_54 rfl (lv_at hl 2 rfl) ?_
      refine z_csi ⟨hx, hb, hml, hown, hts⟩ hw (kX8_reach (zk_8_6 hC h_o0) hq) (va_cwS 2 hts gX8_bound_X8_reach rfl rfl rfl (by decide +kernel) ⟨Nat.le_of_ble_eq_true rfl, Nat.le_of_ble_eq_true rfl⟩) rfl hl.1 rfl (Nat.le_of_ble_eq_true rfl) dX8_bound_55 ⟨Nat.zero_le _, Nat.zero_le _⟩ (fun r11 M0 J0 H locs hq hw => ?_)
      obtain ⟨hq, rfl, rfl⟩ := hq
      refine lv_istore (lv' := [(4, .int r11), (3, .int (M7 (o0 + 6) x8.toNatClampNeg)), (0, .ref (ad o0)), (1, .int x1), (2, .int x2)]) hx hb dX8_bound_58 hl (by decide) rfl (fun ls hl => ?_)
      refine lv_aload_n hx hb dX8_bound_60 rfl (lv_at hl 2 rfl) ?_
      refine zg8_now hx hb g8 hown hw h_o0 q2 dX8_bound_61 ?_
      refine lv_iconst (v := (2 : Int32)) hx hb dX8_bound_64 (by decide) ?_
      refine lv_iconst (v := (4 : Int32)) hx hb dX8_bound_65 (by decide) ?_
      refine lv_iload_n hx hb dX8_bound_66 rfl (lv_at hl 3 rfl) ?_
      refine lv_imul hx hb dX8_bound_67 ?_
      refine lv_iadd hx hb dX8_bound_68 ?_
      refine lv_iconst (v := (3 : Int32)) hx hb dX8_bound_69 (by decide) ?_
      refine lv_iadd hx hb dX8_bound_70 ?_
      refine lv_topi (fun x12 e_x12 => ?_)
      have hq := hq x12 e_x12
      obtain ⟨hi, hq⟩ := hq
      refine z_iald (n := 50) hx hb hw (zk_8_6 hC h_o0) hi dX8_bound_71 ?_
      refine lv_istore (lv' := [(5, .int (M10 (o0 + 6) x12.toNatClampNeg)), (4, .int r11), (3, .int (M7 (o0 + 6) x8.toNatClampNeg)), (0, .ref (ad o0)), (1, .int x1), (2, .int x2)]) hx hb dX8_bound_72 hl (by decide) rfl (fun ls hl => ?_)
      refine lv_aload_n hx hb dX8_bound_74 rfl (lv_at hl 3 rfl) ?_
      refine zg8_now hx hb g8 hown hw h_o0 q2 dX8_bound_75 ?_
      refine lv_iconst (v := (2 : Int32)) hx hb dX8_bound_78 (by decide) ?_
      refine lv_iconst (v := (4 : Int32)) hx hb dX8_bound_79 (by decide) ?_
      refine lv_iload_n hx hb dX8_bound_80 rfl (lv_at hl 4 rfl) ?_
      refine lv_imul hx hb dX8_bound_81 ?_
      refine lv_iadd hx hb dX8_bound_82 ?_
      refine lv_iconst (v := (3 : Int32)) hx hb dX8_bound_83 (by decide) ?_
      refine lv_iadd hx hb dX8_bound_84 ?_
      refine lv_topi (fun x13 e_x13 => ?_)
      have hq := hq x13 e_x13
      refine lv_iload hx hb dX8_bound_85 (lv_at hl 0 rfl) ?_
      refine lv_iload hx hb dX8_bound_87 (lv_at hl 1 rfl) ?_
      refine lv_icmp_le (tgt := 97) hx hb dX8_bound_89 (by decide) (fun hc => ?_) (fun hc => ?_)
      · have hq := hq.1 hc
        refine lv_iload hx hb dX8_bound_97 (lv_at hl 0 rfl) ?_
        refine lv_iload hx hb dX8_bound_99 (lv_at hl 1 rfl) ?_
        refine lv_ineg hx hb dX8_bound_101 ?_
        refine lv_icmp_ge (tgt := 111) hx hb dX8_bound_102 (by decide) (fun hc => ?_) (fun hc => ?_)
        · have hq := hq.1 hc
          refine lv_iload hx hb dX8_bound_111 (lv_at hl 0 rfl) ?_
          obtain ⟨hi, hq⟩ := hq
          refine z_iast (n := 50) hx hb hw (zk_8_6 hC h_o0) hi dX8_bound_113 (fun H locs hw => ?_)
          obtain ⟨M14, e_M14⟩ : ∃ y : zM, y = va_up M10 (o0 + 6) (upd (M10 (o0 + 6)) x13.toNatClampNeg (M10 (o0 + 6) x12.toNatClampNeg)) := ⟨_, rfl⟩
          rw [← e_M14] at hw
          have hq := hq M14 e_M14
          refine lv_iload_n hx hb dX8_bound_114 rfl (lv_at hl 2 rfl) ?_
          exact z_iret hQE hx hb hr hlk hw dX8_bound_115 ⟨hq, rfl⟩
        · have hq := hq.2 hc
          refine lv_iload hx hb dX8_bound_105 (lv_at hl 1 rfl) ?_
          refine lv_ineg hx hb dX8_bound_107 ?_
          refine lv_goto (tgt := 113) hx hb dX8_bound_108 (by decide) ?_
          obtain ⟨hi, hq⟩ := hq
          refine z_iast (n := 50) hx hb hw (zk_8_6 hC h_o0) hi dX8_bound_113 (fun H locs hw => ?_)
          obtain ⟨M15, e_M15⟩ : ∃ y : zM, y = va_up M10 (o0 + 6) (upd (M10 (o0 + 6)) x13.toNatClampNeg (-r11)) := ⟨_, rfl⟩
          rw [← e_M15] at hw
          have hq := hq M15 e_M15
          refine lv_iload_n hx hb dX8_bound_114 rfl (lv_at hl 2 rfl) ?_
          exact z_iret hQE hx hb hr hlk hw dX8_bound_115 ⟨hq, rfl⟩
      · have hq := hq.2 hc
        refine lv_iload hx hb dX8_bound_92 (lv_at hl 1 rfl) ?_
        refine lv_goto (tgt := 113) hx hb dX8_bound_94 (by decide) ?_
        obtain ⟨hi, hq⟩ := hq
        refine z_iast (n := 50) hx hb hw (zk_8_6 hC h_o0) hi dX8_bound_113 (fun H locs hw => ?_)
        obtain ⟨M16, e_M16⟩ : ∃ y : zM, y = va_up M10 (o0 + 6) (upd (M10 (o0 + 6)) x13.toNatClampNeg r11) := ⟨_, rfl⟩
        rw [← e_M16] at hw
        have hq := hq M16 e_M16
        refine lv_iload_n hx hb dX8_bound_114 rfl (lv_at hl 2 rfl) ?_
        exact z_iret hQE hx hb hr hlk hw dX8_bound_115 ⟨hq, rfl⟩
    · have hq := hq.2 hc
      refine lv_ldc (v := (-1000001 : Int32)) hx hb hown q1 dX8_bound_17 ?_
      exact z_iret hQE hx hb hr hlk hw dX8_bound_19 ⟨hq, rfl⟩
set_option maxRecDepth 20000 in
theorem ggX8_undo_X8_copies : GoodIn wsX8_undo wsX8_copies := goodIn_r _ [8] (by decide +kernel) (by decide +kernel)
set_option maxRecDepth 20000 in
theorem gX8_undo_X8_copies : GoodIn wsX8_undo (va_wsS RX8 135 yX8_copies wsX8_copies) := goodIn_app (goodIn_of _ (by decide +kernel)) ggX8_undo_X8_copies
theorem dX8_undo_0 : decode cX8_undo 0 = .ok (.aload_n 0, 1) := by decide +kernel
theorem dX8_undo_1 : decode cX8_undo 1 = .ok (.getfield 139, 3) := by decide +kernel
theorem dX8_undo_4 : decode cX8_undo 4 = .ok (.ifCond .ne 6, 3) := by decide +kernel
theorem dX8_undo_7 : decode cX8_undo 7 = .ok (.ldc 169, 2) := by decide +kernel
theorem dX8_undo_9 : decode cX8_undo 9 = .ok (.ireturn, 1) := by decide +kernel
theorem dX8_undo_10 : decode cX8_undo 10 = .ok (.aload_n 0, 1) := by decide +kernel
theorem dX8_undo_11 : decode cX8_undo 11 = .ok (.dup, 1) := by decide +kernel
theorem dX8_undo_12 : decode cX8_undo 12 = .ok (.getfield 139, 3) := by decide +kernel
theorem dX8_undo_15 : decode cX8_undo 15 = .ok (.iconst 1, 1) := by decide +kernel
theorem dX8_undo_16 : decode cX8_undo 16 = .ok (.isub, 1) := by decide +kernel
theorem dX8_undo_17 : decode cX8_undo 17 = .ok (.putfield 139, 3) := by decide +kernel
theorem dX8_undo_20 : decode cX8_undo 20 = .ok (.aload_n 0, 1) := by decide +kernel
theorem dX8_undo_21 : decode cX8_undo 21 = .ok (.getfield 34, 3) := by decide +kernel
theorem dX8_undo_24 : decode cX8_undo 24 = .ok (.bipush 50, 2) := by decide +kernel
theorem dX8_undo_26 : decode cX8_undo 26 = .ok (.aload_n 0, 1) := by decide +kernel
theorem dX8_undo_27 : decode cX8_undo 27 = .ok (.getfield 139, 3) := by decide +kernel
theorem dX8_undo_30 : decode cX8_undo 30 = .ok (.imul, 1) := by decide +kernel
theorem dX8_undo_31 : decode cX8_undo 31 = .ok (.aload_n 0, 1) := by decide +kernel
theorem dX8_undo_32 : decode cX8_undo 32 = .ok (.getfield 25, 3) := by decide +kernel
theorem dX8_undo_35 : decode cX8_undo 35 = .ok (.iconst 0, 1) := by decide +kernel
theorem dX8_undo_36 : decode cX8_undo 36 = .ok (.invokestatic 135, 3) := by decide +kernel
theorem dX8_undo_39 : decode cX8_undo 39 = .ok (.aload_n 0, 1) := by decide +kernel
theorem dX8_undo_40 : decode cX8_undo 40 = .ok (.getfield 139, 3) := by decide +kernel
theorem dX8_undo_43 : decode cX8_undo 43 = .ok (.ireturn, 1) := by decide +kernel
def rmX8_undo : Room := { frames := 1, cells := 0, slots := 0, locals := 24 }
def wX8_undo (M : zM) (o0 : Nat) (Q : Int32 → zM → Prop) : Prop :=
    ((¬ (M o0 8) = 0) → (
    ∀ M3 : zM, M3 = va_up M o0 (upd (M o0) 8 ((M o0 8) - (1 : Int32))) →
    wX8_copies M3 (o0 + 9) 1200 ((50 : Int32) * (M3 o0 8)) (o0 + 6) 50 (0 : Int32) (fun M4 =>
    Q (M4 o0 8) M4))) ∧
    (((M o0 8) = 0) → (
    Q (-1000002 : Int32) M))
set_option maxHeartbeats 4000000 in
set_option maxRecDepth 100000 in
theorem kX8_undo {l : Launch} {D : va_G} {Y : zY} {ad kd : Nat → Nat} {RL : List Nat} {M : zM} {J : zL} {o0 : Nat} (h_o0 : kd o0 = 8) {Q : Int32 → zM → Prop} (hq : wX8_undo M o0 Q) : zCi l yX8_undo wsX8_undo rmX8_undo [.ref (ad o0)] D Y ad kd RL M J (fun r M' J' => Q r M' ∧ J = J') := by
  refine z_meti (cc := cX8_undo) (maxL := 1) (ret := (some .int)) (by decide) rfl (Nat.le_of_ble_eq_true rfl) ?_
  intro p e s m below meth c ls A ar QE hQE hx hb hr hml hown hts hlk hw hl
  have hown : s.vm.findClass RX8 = some m.cls := hown
  have hl : lv_has ls 1 [(0, .ref (ad o0))] := hl
  have hC := hw.2.2.2.2.2.1
  have g8 : ∀ w ∈ wsX80, w.before ar s = true := (fun w h => hts w (List.mem_cons_of_mem _ (List.mem_append_right _ h)))
  have q1 := hts _ (List.mem_of_getElem? (i := 1) rfl)
  have q2 := hts _ (List.mem_of_getElem? (i := 2) rfl)
  have q3 := hts _ (List.mem_of_getElem? (i := 3) rfl)
  have q4 := hts _ (List.mem_of_getElem? (i := 4) rfl)
  unfold wX8_undo at hq
  refine lv_aload_n hx hb dX8_undo_0 rfl (lv_at hl 0 rfl) ?_
  refine zg8_acts hx hb g8 hown hw h_o0 q1 dX8_undo_1 ?_
  refine lv_if_ne (tgt := 10) hx hb dX8_undo_4 (by decide) (fun hc => ?_) (fun hc => ?_)
  · have hq := hq.1 hc
    refine lv_aload_n hx hb dX8_undo_10 rfl (lv_at hl 0 rfl) ?_
    refine lv_dup hx hb dX8_undo_11 rfl ?_
    refine zg8_acts hx hb g8 hown hw h_o0 q1 dX8_undo_12 ?_
    refine lv_iconst (v := (1 : Int32)) hx hb dX8_undo_15 (by decide) ?_
    refine lv_isub hx hb dX8_undo_16 ?_
    refine zp8_acts hx hb g8 hown hw h_o0 q1 dX8_undo_17 (fun H locs hw => ?_)
    obtain ⟨M3, e_M3⟩ : ∃ y : zM, y = va_up M o0 (upd (M o0) 8 ((M o0 8) - (1 : Int32))) := ⟨_, rfl⟩
    rw [← e_M3] at hw
    have hq := hq M3 e_M3
    refine lv_aload_n hx hb dX8_undo_20 rfl (lv_at hl 0 rfl) ?_
    refine zg8_past hx hb g8 hown hw h_o0 q3 dX8_undo_21 ?_
    refine lv_bipush (v := (50 : Int32)) hx hb dX8_undo_24 (by decide) ?_
    refine lv_aload_n hx hb dX8_undo_26 rfl (lv_at hl 0 rfl) ?_
    refine zg8_acts hx hb g8 hown hw h_o0 q1 dX8_undo_27 ?_
    refine lv_imul hx hb dX8_undo_30 ?_
    refine lv_aload_n hx hb dX8_undo_31 rfl (lv_at hl 0 rfl) ?_
    refine zg8_now hx hb g8 hown hw h_o0 q4 dX8_undo_32 ?_
    refine lv_iconst (v := (0 : Int32)) hx hb dX8_undo_35 (by decide) ?_
    refine z_csv ⟨hx, hb, hml, hown, hts⟩ hw (kX8_copies (zk_8_9 hC h_o0) (zk_8_6 hC h_o0) hq) (va_cwS 4 hts gX8_undo_X8_copies rfl rfl rfl (by decide +kernel) ⟨Nat.le_of_ble_eq_true rfl, Nat.le_of_ble_eq_true rfl⟩) rfl hl.1 rfl (Nat.le_of_ble_eq_true rfl) dX8_undo_36 ⟨Nat.zero_le _, Nat.zero_le _⟩ (fun M4 J0 H locs hq hw => ?_)
    obtain ⟨hq, rfl⟩ := hq
    refine lv_aload_n hx hb dX8_undo_39 rfl (lv_at hl 0 rfl) ?_
    refine zg8_acts hx hb g8 hown hw h_o0 q1 dX8_undo_40 ?_
    exact z_iret hQE hx hb hr hlk hw dX8_undo_43 ⟨hq, rfl⟩
  · have hq := hq.2 hc
    refine lv_ldc (v := (-1000002 : Int32)) hx hb hown q2 dX8_undo_7 ?_
    exact z_iret hQE hx hb hr hlk hw dX8_undo_9 ⟨hq, rfl⟩
theorem dX8_wish_0 : decode cX8_wish 0 = .ok (.aload_n 0, 1) := by decide +kernel
theorem dX8_wish_1 : decode cX8_wish 1 = .ok (.getfield 25, 3) := by decide +kernel
theorem dX8_wish_4 : decode cX8_wish 4 = .ok (.iconst 3, 1) := by decide +kernel
theorem dX8_wish_5 : decode cX8_wish 5 = .ok (.iaload, 1) := by decide +kernel
theorem dX8_wish_6 : decode cX8_wish 6 = .ok (.istore_n 2, 1) := by decide +kernel
theorem dX8_wish_7 : decode cX8_wish 7 = .ok (.aload_n 0, 1) := by decide +kernel
theorem dX8_wish_8 : decode cX8_wish 8 = .ok (.getfield 25, 3) := by decide +kernel
theorem dX8_wish_11 : decode cX8_wish 11 = .ok (.iconst 2, 1) := by decide +kernel
theorem dX8_wish_12 : decode cX8_wish 12 = .ok (.iconst 4, 1) := by decide +kernel
theorem dX8_wish_13 : decode cX8_wish 13 = .ok (.aload_n 0, 1) := by decide +kernel
theorem dX8_wish_14 : decode cX8_wish 14 = .ok (.getfield 25, 3) := by decide +kernel
theorem dX8_wish_17 : decode cX8_wish 17 = .ok (.iconst 0, 1) := by decide +kernel
theorem dX8_wish_18 : decode cX8_wish 18 = .ok (.iaload, 1) := by decide +kernel
theorem dX8_wish_19 : decode cX8_wish 19 = .ok (.iconst 1, 1) := by decide +kernel
theorem dX8_wish_20 : decode cX8_wish 20 = .ok (.isub, 1) := by decide +kernel
theorem dX8_wish_21 : decode cX8_wish 21 = .ok (.imul, 1) := by decide +kernel
theorem dX8_wish_22 : decode cX8_wish 22 = .ok (.iadd, 1) := by decide +kernel
theorem dX8_wish_23 : decode cX8_wish 23 = .ok (.iconst 1, 1) := by decide +kernel
theorem dX8_wish_24 : decode cX8_wish 24 = .ok (.iadd, 1) := by decide +kernel
theorem dX8_wish_25 : decode cX8_wish 25 = .ok (.iaload, 1) := by decide +kernel
theorem dX8_wish_26 : decode cX8_wish 26 = .ok (.istore_n 3, 1) := by decide +kernel
theorem dX8_wish_27 : decode cX8_wish 27 = .ok (.iload_n 3, 1) := by decide +kernel
theorem dX8_wish_28 : decode cX8_wish 28 = .ok (.iload_n 2, 1) := by decide +kernel
theorem dX8_wish_29 : decode cX8_wish 29 = .ok (.isub, 1) := by decide +kernel
theorem dX8_wish_30 : decode cX8_wish 30 = .ok (.iload_n 1, 1) := by decide +kernel
theorem dX8_wish_31 : decode cX8_wish 31 = .ok (.imul, 1) := by decide +kernel
theorem dX8_wish_32 : decode cX8_wish 32 = .ok (.aload_n 0, 1) := by decide +kernel
theorem dX8_wish_33 : decode cX8_wish 33 = .ok (.getfield 25, 3) := by decide +kernel
theorem dX8_wish_36 : decode cX8_wish 36 = .ok (.iconst 0, 1) := by decide +kernel
theorem dX8_wish_37 : decode cX8_wish 37 = .ok (.iaload, 1) := by decide +kernel
theorem dX8_wish_38 : decode cX8_wish 38 = .ok (.iconst 1, 1) := by decide +kernel
theorem dX8_wish_39 : decode cX8_wish 39 = .ok (.isub, 1) := by decide +kernel
theorem dX8_wish_40 : decode cX8_wish 40 = .ok (.idiv, 1) := by decide +kernel
theorem dX8_wish_41 : decode cX8_wish 41 = .ok (.iload_n 2, 1) := by decide +kernel
theorem dX8_wish_42 : decode cX8_wish 42 = .ok (.iadd, 1) := by decide +kernel
theorem dX8_wish_43 : decode cX8_wish 43 = .ok (.ireturn, 1) := by decide +kernel
def rmX8_wish : Room := { frames := 0, cells := 0, slots := 0, locals := 0 }
def wX8_wish (M : zM) (o0 : Nat) (x1 : Int32) (Q : Int32 → Prop) : Prop :=
    ∀ x4 : Int32, x4 = ((M (o0 + 6) (0 : Int32).toNatClampNeg) - (1 : Int32)) →
    ∀ x5 : Int32, x5 = (((2 : Int32) + ((4 : Int32) * x4)) + (1 : Int32)) →
    vp_in x5 50 ∧
    ∀ x6 : Int32, x6 = ((M (o0 + 6) x5.toNatClampNeg) - (M (o0 + 6) (3 : Int32).toNatClampNeg)) →
    ∀ x7 : Int32, x7 = ((M (o0 + 6) (0 : Int32).toNatClampNeg) - (1 : Int32)) →
    ¬ x7 = 0 ∧
    ∀ x8 : Int32, x8 = (((x6 * x1) / x7) + (M (o0 + 6) (3 : Int32).toNatClampNeg)) →
    Q x8
set_option maxHeartbeats 4000000 in
set_option maxRecDepth 100000 in
theorem kX8_wish {l : Launch} {D : va_G} {Y : zY} {ad kd : Nat → Nat} {RL : List Nat} {M : zM} {J : zL} {o0 : Nat} {x1 : Int32} (h_o0 : kd o0 = 8) {Q : Int32 → Prop} (hq : wX8_wish M o0 x1 Q) : zCi l yX8_wish wsX8_wish rmX8_wish [.ref (ad o0), .int x1] D Y ad kd RL M J (fun r M' J' => Q r ∧ M = M' ∧ J = J') := by
  refine z_meti (cc := cX8_wish) (maxL := 4) (ret := (some .int)) (by decide) rfl (Nat.le_of_ble_eq_true rfl) ?_
  intro p e s m below meth c ls A ar QE hQE hx hb hr hml hown hts hlk hw hl
  have hown : s.vm.findClass RX8 = some m.cls := hown
  have hl : lv_has ls 4 [(0, .ref (ad o0)), (1, .int x1)] := hl
  have hC := hw.2.2.2.2.2.1
  have g8 : ∀ w ∈ wsX80, w.before ar s = true := (fun w h => hts w (List.mem_cons_of_mem _ (List.mem_append_right _ h)))
  have q1 := hts _ (List.mem_of_getElem? (i := 1) rfl)
  unfold wX8_wish at hq
  refine lv_aload_n hx hb dX8_wish_0 rfl (lv_at hl 0 rfl) ?_
  refine zg8_now hx hb g8 hown hw h_o0 q1 dX8_wish_1 ?_
  refine lv_iconst (v := (3 : Int32)) hx hb dX8_wish_4 (by decide) ?_
  have hi : vp_in (3 : Int32) 50 := by unfold vp_in; decide
  refine z_iald (n := 50) hx hb hw (zk_8_6 hC h_o0) hi dX8_wish_5 ?_
  refine lv_istore_n (lv' := [(2, .int (M (o0 + 6) (3 : Int32).toNatClampNeg)), (0, .ref (ad o0)), (1, .int x1)]) hx hb dX8_wish_6 rfl hl (by decide) rfl (fun ls hl => ?_)
  refine lv_aload_n hx hb dX8_wish_7 rfl (lv_at hl 1 rfl) ?_
  refine zg8_now hx hb g8 hown hw h_o0 q1 dX8_wish_8 ?_
  refine lv_iconst (v := (2 : Int32)) hx hb dX8_wish_11 (by decide) ?_
  refine lv_iconst (v := (4 : Int32)) hx hb dX8_wish_12 (by decide) ?_
  refine lv_aload_n hx hb dX8_wish_13 rfl (lv_at hl 1 rfl) ?_
  refine zg8_now hx hb g8 hown hw h_o0 q1 dX8_wish_14 ?_
  refine lv_iconst (v := (0 : Int32)) hx hb dX8_wish_17 (by decide) ?_
  have hi : vp_in (0 : Int32) 50 := by unfold vp_in; decide
  refine z_iald (n := 50) hx hb hw (zk_8_6 hC h_o0) hi dX8_wish_18 ?_
  refine lv_iconst (v := (1 : Int32)) hx hb dX8_wish_19 (by decide) ?_
  refine lv_isub hx hb dX8_wish_20 ?_
  refine lv_topi (fun x4 e_x4 => ?_)
  have hq := hq x4 e_x4
  refine lv_imul hx hb dX8_wish_21 ?_
  refine lv_iadd hx hb dX8_wish_22 ?_
  refine lv_iconst (v := (1 : Int32)) hx hb dX8_wish_23 (by decide) ?_
  refine lv_iadd hx hb dX8_wish_24 ?_
  refine lv_topi (fun x5 e_x5 => ?_)
  have hq := hq x5 e_x5
  obtain ⟨hi, hq⟩ := hq
  refine z_iald (n := 50) hx hb hw (zk_8_6 hC h_o0) hi dX8_wish_25 ?_
  refine lv_istore_n (lv' := [(3, .int (M (o0 + 6) x5.toNatClampNeg)), (2, .int (M (o0 + 6) (3 : Int32).toNatClampNeg)), (0, .ref (ad o0)), (1, .int x1)]) hx hb dX8_wish_26 rfl hl (by decide) rfl (fun ls hl => ?_)
  refine lv_iload_n hx hb dX8_wish_27 rfl (lv_at hl 0 rfl) ?_
  refine lv_iload_n hx hb dX8_wish_28 rfl (lv_at hl 1 rfl) ?_
  refine lv_isub hx hb dX8_wish_29 ?_
  refine lv_topi (fun x6 e_x6 => ?_)
  have hq := hq x6 e_x6
  refine lv_iload_n hx hb dX8_wish_30 rfl (lv_at hl 3 rfl) ?_
  refine lv_imul hx hb dX8_wish_31 ?_
  refine lv_aload_n hx hb dX8_wish_32 rfl (lv_at hl 2 rfl) ?_
  refine zg8_now hx hb g8 hown hw h_o0 q1 dX8_wish_33 ?_
  refine lv_iconst (v := (0 : Int32)) hx hb dX8_wish_36 (by decide) ?_
  have hi : vp_in (0 : Int32) 50 := by unfold vp_in; decide
  refine z_iald (n := 50) hx hb hw (zk_8_6 hC h_o0) hi dX8_wish_37 ?_
  refine lv_iconst (v := (1 : Int32)) hx hb dX8_wish_38 (by decide) ?_
  refine lv_isub hx hb dX8_wish_39 ?_
  refine lv_topi (fun x7 e_x7 => ?_)
  have hq := hq x7 e_x7
  obtain ⟨hz, hq⟩ := hq
  refine lv_idiv hx hb dX8_wish_40 hz ?_
  refine lv_iload_n hx hb dX8_wish_41 rfl (lv_at hl 1 rfl) ?_
  refine lv_iadd hx hb dX8_wish_42 ?_
  refine lv_topi (fun x8 e_x8 => ?_)
  have hq := hq x8 e_x8
  exact z_iret hQE hx hb hr hlk hw dX8_wish_43 ⟨hq, rfl, rfl⟩
set_option maxRecDepth 20000 in
theorem ggX8_secondSum_X8_wish : GoodIn wsX8_secondSum wsX8_wish := goodIn_r _ [6, 1, 7, 8, 9, 10, 11, 12, 13, 14, 15, 16, 17, 18, 19, 20, 21, 22, 23, 24, 25, 26, 27, 28, 29, 30, 31, 32] (by decide +kernel) (by decide +kernel)
set_option maxRecDepth 20000 in
theorem gX8_secondSum_X8_wish : GoodIn wsX8_secondSum (wsV RX8 191 RX8 yX8_wish wsX8_wish) := goodIn_app (goodIn_of _ (by decide +kernel)) ggX8_secondSum_X8_wish
theorem dX8_secondSum_0 : decode cX8_secondSum 0 = .ok (.iconst 0, 1) := by decide +kernel
theorem dX8_secondSum_1 : decode cX8_secondSum 1 = .ok (.istore_n 2, 1) := by decide +kernel
theorem dX8_secondSum_2 : decode cX8_secondSum 2 = .ok (.iconst 0, 1) := by decide +kernel
theorem dX8_secondSum_3 : decode cX8_secondSum 3 = .ok (.istore_n 3, 1) := by decide +kernel
theorem dX8_secondSum_4 : decode cX8_secondSum 4 = .ok (.iload_n 3, 1) := by decide +kernel
theorem dX8_secondSum_5 : decode cX8_secondSum 5 = .ok (.iload_n 1, 1) := by decide +kernel
theorem dX8_secondSum_6 : decode cX8_secondSum 6 = .ok (.if_icmp .ge 34, 3) := by decide +kernel
theorem dX8_secondSum_9 : decode cX8_secondSum 9 = .ok (.iload_n 2, 1) := by decide +kernel
theorem dX8_secondSum_10 : decode cX8_secondSum 10 = .ok (.aload_n 0, 1) := by decide +kernel
theorem dX8_secondSum_11 : decode cX8_secondSum 11 = .ok (.iload_n 3, 1) := by decide +kernel
theorem dX8_secondSum_12 : decode cX8_secondSum 12 = .ok (.invokevirtual 191, 3) := by decide +kernel
theorem dX8_secondSum_15 : decode cX8_secondSum 15 = .ok (.aload_n 0, 1) := by decide +kernel
theorem dX8_secondSum_16 : decode cX8_secondSum 16 = .ok (.getfield 25, 3) := by decide +kernel
theorem dX8_secondSum_19 : decode cX8_secondSum 19 = .ok (.iconst 2, 1) := by decide +kernel
theorem dX8_secondSum_20 : decode cX8_secondSum 20 = .ok (.iconst 4, 1) := by decide +kernel
theorem dX8_secondSum_21 : decode cX8_secondSum 21 = .ok (.iload_n 3, 1) := by decide +kernel
theorem dX8_secondSum_22 : decode cX8_secondSum 22 = .ok (.imul, 1) := by decide +kernel
theorem dX8_secondSum_23 : decode cX8_secondSum 23 = .ok (.iadd, 1) := by decide +kernel
theorem dX8_secondSum_24 : decode cX8_secondSum 24 = .ok (.iconst 1, 1) := by decide +kernel
theorem dX8_secondSum_25 : decode cX8_secondSum 25 = .ok (.iadd, 1) := by decide +kernel
theorem dX8_secondSum_26 : decode cX8_secondSum 26 = .ok (.iaload, 1) := by decide +kernel
theorem dX8_secondSum_27 : decode cX8_secondSum 27 = .ok (.isub, 1) := by decide +kernel
theorem dX8_secondSum_28 : decode cX8_secondSum 28 = .ok (.iload_n 1, 1) := by decide +kernel
theorem dX8_secondSum_29 : decode cX8_secondSum 29 = .ok (.iload_n 3, 1) := by decide +kernel
theorem dX8_secondSum_30 : decode cX8_secondSum 30 = .ok (.isub, 1) := by decide +kernel
theorem dX8_secondSum_31 : decode cX8_secondSum 31 = .ok (.imul, 1) := by decide +kernel
theorem dX8_secondSum_32 : decode cX8_secondSum 32 = .ok (.iadd, 1) := by decide +kernel
theorem dX8_secondSum_33 : decode cX8_secondSum 33 = .ok (.istore_n 2, 1) := by decide +kernel
theorem dX8_secondSum_34 : decode cX8_secondSum 34 = .ok (.iinc 3 1, 3) := by decide +kernel
theorem dX8_secondSum_37 : decode cX8_secondSum 37 = .ok (.goto (-33), 3) := by decide +kernel
theorem dX8_secondSum_40 : decode cX8_secondSum 40 = .ok (.iload_n 2, 1) := by decide +kernel
theorem dX8_secondSum_41 : decode cX8_secondSum 41 = .ok (.ireturn, 1) := by decide +kernel
def rmX8_secondSum : Room := { frames := 1, cells := 0, slots := 0, locals := 23 }
def lpX8_secondSum_4 (M : zM) (o0 : Nat) (x1 : Int32) (Q : Int32 → Prop) : Nat → Int32 → Int32 → Prop
  | 0, _, _ => False
  | fu4 + 1, x4, x5 =>
    ((x1 ≤ x5) → (
    Q x4)) ∧
    ((¬ x1 ≤ x5) → (
    wX8_wish M o0 x5 (fun r6 =>
    ∀ x7 : Int32, x7 = (((2 : Int32) + ((4 : Int32) * x5)) + (1 : Int32)) →
    vp_in x7 50 ∧
    ∀ x8 : Int32, x8 = ((r6 - (M (o0 + 6) x7.toNatClampNeg)) * (x1 - x5)) →
    ∀ x9 : Int32, x9 = x5 + (1 : Int32) →
    lpX8_secondSum_4 M o0 x1 Q fu4 (x4 + x8) x9)))
def wX8_secondSum (M : zM) (o0 : Nat) (x1 : Int32) (Q : Int32 → Prop) : Prop :=
    ∃ fu4 : Nat, lpX8_secondSum_4 M o0 x1 Q fu4 (0 : Int32) (0 : Int32)
set_option maxHeartbeats 4000000 in
set_option maxRecDepth 100000 in
theorem kX8_secondSum {l : Launch} {D : va_G} {Y : zY} {ad kd : Nat → Nat} {RL : List Nat} {M : zM} {J : zL} {o0 : Nat} {x1 : Int32} (h_o0 : kd o0 = 8) {Q : Int32 → Prop} (hq : wX8_secondSum M o0 x1 Q) : zCi l yX8_secondSum wsX8_secondSum rmX8_secondSum [.ref (ad o0), .int x1] D Y ad kd RL M J (fun r M' J' => Q r ∧ M = M' ∧ J = J') := by
  refine z_meti (cc := cX8_secondSum) (maxL := 4) (ret := (some .int)) (by decide) rfl (Nat.le_of_ble_eq_true rfl) ?_
  intro p e s m below meth c ls A ar QE hQE hx hb hr hml hown hts hlk hw hl
  have hown : s.vm.findClass RX8 = some m.cls := hown
  have hl : lv_has ls 4 [(0, .ref (ad o0)), (1, .int x1)] := hl
  have hC := hw.2.2.2.2.2.1
  have g8 : ∀ w ∈ wsX80, w.before ar s = true := (fun w h => hts w (List.mem_cons_of_mem _ (List.mem_append_right _ h)))
  have q1 := hts _ (List.mem_of_getElem? (i := 1) rfl)
  unfold wX8_secondSum at hq
  refine lv_iconst (v := (0 : Int32)) hx hb dX8_secondSum_0 (by decide) ?_
  refine lv_istore_n (lv' := [(2, .int (0 : Int32)), (0, .ref (ad o0)), (1, .int x1)]) hx hb dX8_secondSum_1 rfl hl (by decide) rfl (fun ls hl => ?_)
  refine lv_iconst (v := (0 : Int32)) hx hb dX8_secondSum_2 (by decide) ?_
  refine lv_istore_n (lv' := [(3, .int (0 : Int32)), (2, .int (0 : Int32)), (0, .ref (ad o0)), (1, .int x1)]) hx hb dX8_secondSum_3 rfl hl (by decide) rfl (fun ls hl => ?_)
  obtain ⟨fu4, hq⟩ := hq
  have lp4 : ∀ (fu4 : Nat) (x4 : Int32) (x5 : Int32) (H : Heap) (locs : List Loc) (ls : Array Slot), lpX8_secondSum_4 M o0 x1 Q fu4 x4 x5 → zH D Y ad kd RL M J A s.heap H locs s → lv_has ls 4 [(0, .ref (ad o0)), (1, .int x1), (2, .int x4), (3, .int x5)] → W p l e rmX8_secondSum s m ar below meth c H locs 0 0 QE (F0 m 4 ls []) := by
    intro fu4
    induction fu4 with
    | zero => intro x4 x5 H locs ls hq; exact hq.elim
    | succ fu4 ih4 =>
      intro x4 x5 H locs ls hq hw hl
      unfold lpX8_secondSum_4 at hq
      refine lv_iload_n hx hb dX8_secondSum_4 rfl (lv_at hl 3 rfl) ?_
      refine lv_iload_n hx hb dX8_secondSum_5 rfl (lv_at hl 1 rfl) ?_
      refine lv_icmp_ge (tgt := 40) hx hb dX8_secondSum_6 (by decide) (fun hc => ?_) (fun hc => ?_)
      · have hq := hq.1 hc
        refine lv_iload_n hx hb dX8_secondSum_40 rfl (lv_at hl 2 rfl) ?_
        exact z_iret hQE hx hb hr hlk hw dX8_secondSum_41 ⟨hq, rfl, rfl⟩
      · have hq := hq.2 hc
        refine lv_iload_n hx hb dX8_secondSum_9 rfl (lv_at hl 2 rfl) ?_
        refine lv_aload_n hx hb dX8_secondSum_10 rfl (lv_at hl 0 rfl) ?_
        refine lv_iload_n hx hb dX8_secondSum_11 rfl (lv_at hl 3 rfl) ?_
        refine z_cvi ⟨hx, hb, hml, hown, hts⟩ hw h_o0 (kX8_wish h_o0 hq) (by decide) rfl (cwV 1 hts gX8_secondSum_X8_wish rfl rfl rfl (by decide +kernel) ⟨Nat.le_of_ble_eq_true rfl, Nat.le_of_ble_eq_true rfl⟩) rfl hl.1 rfl (Nat.le_of_ble_eq_true rfl) dX8_secondSum_12 ⟨Nat.zero_le _, Nat.zero_le _⟩ (fun r6 M0 J0 H locs hq hw => ?_)
        obtain ⟨hq, rfl, rfl⟩ := hq
        refine lv_aload_n hx hb dX8_secondSum_15 rfl (lv_at hl 0 rfl) ?_
        refine zg8_now hx hb g8 hown hw h_o0 q1 dX8_secondSum_16 ?_
        refine lv_iconst (v := (2 : Int32)) hx hb dX8_secondSum_19 (by decide) ?_
        refine lv_iconst (v := (4 : Int32)) hx hb dX8_secondSum_20 (by decide) ?_
        refine lv_iload_n hx hb dX8_secondSum_21 rfl (lv_at hl 3 rfl) ?_
        refine lv_imul hx hb dX8_secondSum_22 ?_
        refine lv_iadd hx hb dX8_secondSum_23 ?_
        refine lv_iconst (v := (1 : Int32)) hx hb dX8_secondSum_24 (by decide) ?_
        refine lv_iadd hx hb dX8_secondSum_25 ?_
        refine lv_topi (fun x7 e_x7 => ?_)
        have hq := hq x7 e_x7
        obtain ⟨hi, hq⟩ := hq
        refine z_iald (n := 50) hx hb hw (zk_8_6 hC h_o0) hi dX8_secondSum_26 ?_
        refine lv_isub hx hb dX8_secondSum_27 ?_
        refine lv_iload_n hx hb dX8_secondSum_28 rfl (lv_at hl 1 rfl) ?_
        refine lv_iload_n hx hb dX8_secondSum_29 rfl (lv_at hl 3 rfl) ?_
        refine lv_isub hx hb dX8_secondSum_30 ?_
        refine lv_imul hx hb dX8_secondSum_31 ?_
        refine lv_topi (fun x8 e_x8 => ?_)
        have hq := hq x8 e_x8
        refine lv_iadd hx hb dX8_secondSum_32 ?_
        refine lv_istore_n (lv' := [(2, .int (x4 + x8)), (0, .ref (ad o0)), (1, .int x1), (3, .int x5)]) hx hb dX8_secondSum_33 rfl hl (by decide) rfl (fun ls hl => ?_)
        obtain ⟨x9, e_x9⟩ : ∃ y : Int32, y = x5 + (1 : Int32) := ⟨_, rfl⟩
        have hq := hq x9 e_x9
        refine lv_iinc (v := x9) (lv' := [(3, .int x9), (2, .int (x4 + x8)), (0, .ref (ad o0)), (1, .int x1)]) hx hb dX8_secondSum_34 hl (k := 3) rfl (by rw [e_x9]; rfl) (by decide) rfl (fun ls hl => ?_)
        refine lv_goto (tgt := 4) hx hb dX8_secondSum_37 (by decide) ?_
        exact ih4 (x4 + x8) x9 _ _ _ hq hw (lv_sub hl [2, 3, 1, 0] rfl)
  exact lp4 fu4 (0 : Int32) (0 : Int32) _ _ _ hq hw (lv_sub hl [2, 3, 1, 0] rfl)
set_option maxRecDepth 20000 in
theorem ggX8_isClosing_X8_wish : GoodIn wsX8_isClosing wsX8_wish := goodIn_r _ [6, 1, 11, 12, 13, 14, 15, 16, 17, 18, 19, 20, 21, 22, 23, 24, 25, 26, 27, 28, 29, 30, 31, 32, 33, 34, 35, 36] (by decide +kernel) (by decide +kernel)
set_option maxRecDepth 20000 in
theorem gX8_isClosing_X8_wish : GoodIn wsX8_isClosing (wsV RX8 191 RX8 yX8_wish wsX8_wish) := goodIn_app (goodIn_of _ (by decide +kernel)) ggX8_isClosing_X8_wish
set_option maxRecDepth 20000 in
theorem ggX8_isClosing_X8_secondSum : GoodIn wsX8_isClosing wsX8_secondSum := goodIn_r _ [10, 1, 2, 3, 4, 5, 6, 11, 12, 13, 14, 15, 16, 17, 18, 19, 20, 21, 22, 23, 24, 25, 26, 27, 28, 29, 30, 31, 32, 33, 34, 35, 36] (by decide +kernel) (by decide +kernel)
set_option maxRecDepth 20000 in
theorem gX8_isClosing_X8_secondSum : GoodIn wsX8_isClosing (wsV RX8 194 RX8 yX8_secondSum wsX8_secondSum) := goodIn_app (goodIn_of _ (by decide +kernel)) ggX8_isClosing_X8_secondSum
theorem dX8_isClosing_0 : decode cX8_isClosing 0 = .ok (.iconst 0, 1) := by decide +kernel
theorem dX8_isClosing_1 : decode cX8_isClosing 1 = .ok (.istore_n 1, 1) := by decide +kernel
theorem dX8_isClosing_2 : decode cX8_isClosing 2 = .ok (.iconst 0, 1) := by decide +kernel
theorem dX8_isClosing_3 : decode cX8_isClosing 3 = .ok (.istore_n 2, 1) := by decide +kernel
theorem dX8_isClosing_4 : decode cX8_isClosing 4 = .ok (.iload_n 2, 1) := by decide +kernel
theorem dX8_isClosing_5 : decode cX8_isClosing 5 = .ok (.aload_n 0, 1) := by decide +kernel
theorem dX8_isClosing_6 : decode cX8_isClosing 6 = .ok (.getfield 25, 3) := by decide +kernel
theorem dX8_isClosing_9 : decode cX8_isClosing 9 = .ok (.iconst 0, 1) := by decide +kernel
theorem dX8_isClosing_10 : decode cX8_isClosing 10 = .ok (.iaload, 1) := by decide +kernel
theorem dX8_isClosing_11 : decode cX8_isClosing 11 = .ok (.if_icmp .ge 30, 3) := by decide +kernel
theorem dX8_isClosing_14 : decode cX8_isClosing 14 = .ok (.iload_n 1, 1) := by decide +kernel
theorem dX8_isClosing_15 : decode cX8_isClosing 15 = .ok (.aload_n 0, 1) := by decide +kernel
theorem dX8_isClosing_16 : decode cX8_isClosing 16 = .ok (.iload_n 2, 1) := by decide +kernel
theorem dX8_isClosing_17 : decode cX8_isClosing 17 = .ok (.invokevirtual 191, 3) := by decide +kernel
theorem dX8_isClosing_20 : decode cX8_isClosing 20 = .ok (.aload_n 0, 1) := by decide +kernel
theorem dX8_isClosing_21 : decode cX8_isClosing 21 = .ok (.getfield 25, 3) := by decide +kernel
theorem dX8_isClosing_24 : decode cX8_isClosing 24 = .ok (.iconst 2, 1) := by decide +kernel
theorem dX8_isClosing_25 : decode cX8_isClosing 25 = .ok (.iconst 4, 1) := by decide +kernel
theorem dX8_isClosing_26 : decode cX8_isClosing 26 = .ok (.iload_n 2, 1) := by decide +kernel
theorem dX8_isClosing_27 : decode cX8_isClosing 27 = .ok (.imul, 1) := by decide +kernel
theorem dX8_isClosing_28 : decode cX8_isClosing 28 = .ok (.iadd, 1) := by decide +kernel
theorem dX8_isClosing_29 : decode cX8_isClosing 29 = .ok (.iconst 1, 1) := by decide +kernel
theorem dX8_isClosing_30 : decode cX8_isClosing 30 = .ok (.iadd, 1) := by decide +kernel
theorem dX8_isClosing_31 : decode cX8_isClosing 31 = .ok (.iaload, 1) := by decide +kernel
theorem dX8_isClosing_32 : decode cX8_isClosing 32 = .ok (.isub, 1) := by decide +kernel
theorem dX8_isClosing_33 : decode cX8_isClosing 33 = .ok (.iadd, 1) := by decide +kernel
theorem dX8_isClosing_34 : decode cX8_isClosing 34 = .ok (.istore_n 1, 1) := by decide +kernel
theorem dX8_isClosing_35 : decode cX8_isClosing 35 = .ok (.iinc 2 1, 3) := by decide +kernel
theorem dX8_isClosing_38 : decode cX8_isClosing 38 = .ok (.goto (-34), 3) := by decide +kernel
theorem dX8_isClosing_41 : decode cX8_isClosing 41 = .ok (.iload_n 1, 1) := by decide +kernel
theorem dX8_isClosing_42 : decode cX8_isClosing 42 = .ok (.ifCond .ne 22, 3) := by decide +kernel
theorem dX8_isClosing_45 : decode cX8_isClosing 45 = .ok (.aload_n 0, 1) := by decide +kernel
theorem dX8_isClosing_46 : decode cX8_isClosing 46 = .ok (.aload_n 0, 1) := by decide +kernel
theorem dX8_isClosing_47 : decode cX8_isClosing 47 = .ok (.getfield 25, 3) := by decide +kernel
theorem dX8_isClosing_50 : decode cX8_isClosing 50 = .ok (.iconst 0, 1) := by decide +kernel
theorem dX8_isClosing_51 : decode cX8_isClosing 51 = .ok (.iaload, 1) := by decide +kernel
theorem dX8_isClosing_52 : decode cX8_isClosing 52 = .ok (.iconst 1, 1) := by decide +kernel
theorem dX8_isClosing_53 : decode cX8_isClosing 53 = .ok (.isub, 1) := by decide +kernel
theorem dX8_isClosing_54 : decode cX8_isClosing 54 = .ok (.invokevirtual 194, 3) := by decide +kernel
theorem dX8_isClosing_57 : decode cX8_isClosing 57 = .ok (.ifCond .ne 7, 3) := by decide +kernel
theorem dX8_isClosing_60 : decode cX8_isClosing 60 = .ok (.iconst 1, 1) := by decide +kernel
theorem dX8_isClosing_61 : decode cX8_isClosing 61 = .ok (.goto 4, 3) := by decide +kernel
theorem dX8_isClosing_64 : decode cX8_isClosing 64 = .ok (.iconst 0, 1) := by decide +kernel
theorem dX8_isClosing_65 : decode cX8_isClosing 65 = .ok (.ireturn, 1) := by decide +kernel
def rmX8_isClosing : Room := { frames := 2, cells := 0, slots := 0, locals := 46 }
def lpX8_isClosing_4 (M : zM) (o0 : Nat) (K4_41 : Int32 → Int32 → Prop) : Nat → Int32 → Int32 → Prop
  | 0, _, _ => False
  | fu4 + 1, x3, x4 =>
    (((M (o0 + 6) (0 : Int32).toNatClampNeg) ≤ x4) → (
    K4_41 x3 x4)) ∧
    ((¬ (M (o0 + 6) (0 : Int32).toNatClampNeg) ≤ x4) → (
    wX8_wish M o0 x4 (fun r9 =>
    ∀ x10 : Int32, x10 = (((2 : Int32) + ((4 : Int32) * x4)) + (1 : Int32)) →
    vp_in x10 50 ∧
    ∀ x11 : Int32, x11 = x4 + (1 : Int32) →
    lpX8_isClosing_4 M o0 K4_41 fu4 (x3 + (r9 - (M (o0 + 6) x10.toNatClampNeg))) x11)))
def wX8_isClosing (M : zM) (o0 : Nat) (Q : Int32 → Prop) : Prop :=
    ∃ fu4 : Nat, lpX8_isClosing_4 M o0 (fun x5 x6 =>
    ((¬ x5 = 0) → (
    Q (0 : Int32))) ∧
    ((x5 = 0) → (
    ∀ x7 : Int32, x7 = ((M (o0 + 6) (0 : Int32).toNatClampNeg) - (1 : Int32)) →
    wX8_secondSum M o0 x7 (fun r8 =>
    ((¬ r8 = 0) → (
    Q (0 : Int32))) ∧
    ((r8 = 0) → (
    Q (1 : Int32))))))) fu4 (0 : Int32) (0 : Int32)
set_option maxHeartbeats 4000000 in
set_option maxRecDepth 100000 in
theorem kX8_isClosing {l : Launch} {D : va_G} {Y : zY} {ad kd : Nat → Nat} {RL : List Nat} {M : zM} {J : zL} {o0 : Nat} (h_o0 : kd o0 = 8) {Q : Int32 → Prop} (hq : wX8_isClosing M o0 Q) : zCi l yX8_isClosing wsX8_isClosing rmX8_isClosing [.ref (ad o0)] D Y ad kd RL M J (fun r M' J' => Q r ∧ M = M' ∧ J = J') := by
  refine z_meti (cc := cX8_isClosing) (maxL := 3) (ret := (some .boolean)) (by decide) rfl (Nat.le_of_ble_eq_true rfl) ?_
  intro p e s m below meth c ls A ar QE hQE hx hb hr hml hown hts hlk hw hl
  have hown : s.vm.findClass RX8 = some m.cls := hown
  have hl : lv_has ls 3 [(0, .ref (ad o0))] := hl
  have hC := hw.2.2.2.2.2.1
  have g8 : ∀ w ∈ wsX80, w.before ar s = true := (fun w h => hts w (List.mem_cons_of_mem _ (List.mem_append_right _ h)))
  have q1 := hts _ (List.mem_of_getElem? (i := 1) rfl)
  unfold wX8_isClosing at hq
  refine lv_iconst (v := (0 : Int32)) hx hb dX8_isClosing_0 (by decide) ?_
  refine lv_istore_n (lv' := [(1, .int (0 : Int32)), (0, .ref (ad o0))]) hx hb dX8_isClosing_1 rfl hl (by decide) rfl (fun ls hl => ?_)
  refine lv_iconst (v := (0 : Int32)) hx hb dX8_isClosing_2 (by decide) ?_
  refine lv_istore_n (lv' := [(2, .int (0 : Int32)), (1, .int (0 : Int32)), (0, .ref (ad o0))]) hx hb dX8_isClosing_3 rfl hl (by decide) rfl (fun ls hl => ?_)
  have ex4_41 : ∀ (x5 : Int32) (x6 : Int32) (H : Heap) (locs : List Loc) (ls : Array Slot), (((¬ x5 = 0) → ( Q (0 : Int32))) ∧ ((x5 = 0) → ( ∀ x7 : Int32, x7 = ((M (o0 + 6) (0 : Int32).toNatClampNeg) - (1 : Int32)) → wX8_secondSum M o0 x7 (fun r8 => ((¬ r8 = 0) → ( Q (0 : Int32))) ∧ ((r8 = 0) → ( Q (1 : Int32))))))) → zH D Y ad kd RL M J A s.heap H locs s → lv_has ls 3 [(0, .ref (ad o0)), (1, .int x5)] → W p l e rmX8_isClosing s m ar below meth c H locs 0 0 QE (F0 m 41 ls []) := by
    intro x5 x6 H locs ls hq hw hl
    refine lv_iload_n hx hb dX8_isClosing_41 rfl (lv_at hl 1 rfl) ?_
    refine lv_if_ne (tgt := 64) hx hb dX8_isClosing_42 (by decide) (fun hc => ?_) (fun hc => ?_)
    · have hq := hq.1 hc
      refine lv_iconst (v := (0 : Int32)) hx hb dX8_isClosing_64 (by decide) ?_
      exact z_zret hQE hx hb hr hlk hw dX8_isClosing_65 (by decide) ⟨hq, rfl, rfl⟩
    · have hq := hq.2 hc
      refine lv_aload_n hx hb dX8_isClosing_45 rfl (lv_at hl 0 rfl) ?_
      refine lv_aload_n hx hb dX8_isClosing_46 rfl (lv_at hl 0 rfl) ?_
      refine zg8_now hx hb g8 hown hw h_o0 q1 dX8_isClosing_47 ?_
      refine lv_iconst (v := (0 : Int32)) hx hb dX8_isClosing_50 (by decide) ?_
      have hi : vp_in (0 : Int32) 50 := by unfold vp_in; decide
      refine z_iald (n := 50) hx hb hw (zk_8_6 hC h_o0) hi dX8_isClosing_51 ?_
      refine lv_iconst (v := (1 : Int32)) hx hb dX8_isClosing_52 (by decide) ?_
      refine lv_isub hx hb dX8_isClosing_53 ?_
      refine lv_topi (fun x7 e_x7 => ?_)
      have hq := hq x7 e_x7
      refine z_cvi ⟨hx, hb, hml, hown, hts⟩ hw h_o0 (kX8_secondSum h_o0 hq) (by decide) rfl (cwV 1 hts gX8_isClosing_X8_secondSum rfl rfl rfl (by decide +kernel) ⟨Nat.le_of_ble_eq_true rfl, Nat.le_of_ble_eq_true rfl⟩) rfl hl.1 rfl (Nat.le_of_ble_eq_true rfl) dX8_isClosing_54 ⟨Nat.zero_le _, Nat.zero_le _⟩ (fun r8 M0 J0 H locs hq hw => ?_)
      obtain ⟨hq, rfl, rfl⟩ := hq
      refine lv_if_ne (tgt := 64) hx hb dX8_isClosing_57 (by decide) (fun hc => ?_) (fun hc => ?_)
      · have hq := hq.1 hc
        refine lv_iconst (v := (0 : Int32)) hx hb dX8_isClosing_64 (by decide) ?_
        exact z_zret hQE hx hb hr hlk hw dX8_isClosing_65 (by decide) ⟨hq, rfl, rfl⟩
      · have hq := hq.2 hc
        refine lv_iconst (v := (1 : Int32)) hx hb dX8_isClosing_60 (by decide) ?_
        refine lv_goto (tgt := 65) hx hb dX8_isClosing_61 (by decide) ?_
        exact z_zret hQE hx hb hr hlk hw dX8_isClosing_65 (by decide) ⟨hq, rfl, rfl⟩
  obtain ⟨fu4, hq⟩ := hq
  have lp4 : ∀ (fu4 : Nat) (x3 : Int32) (x4 : Int32) (H : Heap) (locs : List Loc) (ls : Array Slot), lpX8_isClosing_4 M o0 (fun x5 x6 => ((¬ x5 = 0) → ( Q (0 : Int32))) ∧ ((x5 = 0) → ( ∀ x7 : Int32, x7 = ((M (o0 + 6) (0 : Int32).toNatClampNeg) - (1 : Int32)) → wX8_secondSum M o0 x7 (fun r8 => ((¬ r8 = 0) → ( Q (0 : Int32))) ∧ ((r8 = 0) → ( Q (1 : Int32))))))) fu4 x3 x4 → zH D Y ad kd RL M J A s.heap H locs s → lv_has ls 3 [(0, .ref (ad o0)), (1, .int x3), (2, .int x4)] → W p l e rmX8_isClosing s m ar below meth c H locs 0 0 QE (F0 m 4 ls []) := by
    intro fu4
    induction fu4 with
    | zero => intro x3 x4 H locs ls hq; exact hq.elim
    | succ fu4 ih4 =>
      intro x3 x4 H locs ls hq hw hl
      unfold lpX8_isClosing_4 at hq
      refine lv_iload_n hx hb dX8_isClosing_4 rfl (lv_at hl 2 rfl) ?_
      refine lv_aload_n hx hb dX8_isClosing_5 rfl (lv_at hl 0 rfl) ?_
      refine zg8_now hx hb g8 hown hw h_o0 q1 dX8_isClosing_6 ?_
      refine lv_iconst (v := (0 : Int32)) hx hb dX8_isClosing_9 (by decide) ?_
      have hi : vp_in (0 : Int32) 50 := by unfold vp_in; decide
      refine z_iald (n := 50) hx hb hw (zk_8_6 hC h_o0) hi dX8_isClosing_10 ?_
      refine lv_icmp_ge (tgt := 41) hx hb dX8_isClosing_11 (by decide) (fun hc => ?_) (fun hc => ?_)
      · have hq := hq.1 hc
        exact ex4_41 x3 x4 _ _ _ hq hw (lv_sub hl [0, 1] rfl)
      · have hq := hq.2 hc
        refine lv_iload_n hx hb dX8_isClosing_14 rfl (lv_at hl 1 rfl) ?_
        refine lv_aload_n hx hb dX8_isClosing_15 rfl (lv_at hl 0 rfl) ?_
        refine lv_iload_n hx hb dX8_isClosing_16 rfl (lv_at hl 2 rfl) ?_
        refine z_cvi ⟨hx, hb, hml, hown, hts⟩ hw h_o0 (kX8_wish h_o0 hq) (by decide) rfl (cwV 1 hts gX8_isClosing_X8_wish rfl rfl rfl (by decide +kernel) ⟨Nat.le_of_ble_eq_true rfl, Nat.le_of_ble_eq_true rfl⟩) rfl hl.1 rfl (Nat.le_of_ble_eq_true rfl) dX8_isClosing_17 ⟨Nat.zero_le _, Nat.zero_le _⟩ (fun r9 M0 J0 H locs hq hw => ?_)
        obtain ⟨hq, rfl, rfl⟩ := hq
        refine lv_aload_n hx hb dX8_isClosing_20 rfl (lv_at hl 0 rfl) ?_
        refine zg8_now hx hb g8 hown hw h_o0 q1 dX8_isClosing_21 ?_
        refine lv_iconst (v := (2 : Int32)) hx hb dX8_isClosing_24 (by decide) ?_
        refine lv_iconst (v := (4 : Int32)) hx hb dX8_isClosing_25 (by decide) ?_
        refine lv_iload_n hx hb dX8_isClosing_26 rfl (lv_at hl 2 rfl) ?_
        refine lv_imul hx hb dX8_isClosing_27 ?_
        refine lv_iadd hx hb dX8_isClosing_28 ?_
        refine lv_iconst (v := (1 : Int32)) hx hb dX8_isClosing_29 (by decide) ?_
        refine lv_iadd hx hb dX8_isClosing_30 ?_
        refine lv_topi (fun x10 e_x10 => ?_)
        have hq := hq x10 e_x10
        obtain ⟨hi, hq⟩ := hq
        refine z_iald (n := 50) hx hb hw (zk_8_6 hC h_o0) hi dX8_isClosing_31 ?_
        refine lv_isub hx hb dX8_isClosing_32 ?_
        refine lv_iadd hx hb dX8_isClosing_33 ?_
        refine lv_istore_n (lv' := [(1, .int (x3 + (r9 - (M (o0 + 6) x10.toNatClampNeg)))), (0, .ref (ad o0)), (2, .int x4)]) hx hb dX8_isClosing_34 rfl hl (by decide) rfl (fun ls hl => ?_)
        obtain ⟨x11, e_x11⟩ : ∃ y : Int32, y = x4 + (1 : Int32) := ⟨_, rfl⟩
        have hq := hq x11 e_x11
        refine lv_iinc (v := x11) (lv' := [(2, .int x11), (1, .int (x3 + (r9 - (M (o0 + 6) x10.toNatClampNeg)))), (0, .ref (ad o0))]) hx hb dX8_isClosing_35 hl (k := 2) rfl (by rw [e_x11]; rfl) (by decide) rfl (fun ls hl => ?_)
        refine lv_goto (tgt := 4) hx hb dX8_isClosing_38 (by decide) ?_
        exact ih4 (x3 + (r9 - (M (o0 + 6) x10.toNatClampNeg))) x11 _ _ _ hq hw (lv_sub hl [2, 1, 0] rfl)
  exact lp4 fu4 (0 : Int32) (0 : Int32) _ _ _ hq hw (lv_sub hl [2, 1, 0] rfl)
set_option maxRecDepth 20000 in
theorem ggX8_peg_X8_isPeg : GoodIn wsX8_peg wsX8_isPeg := goodIn_r _ [8, 2, 9, 10, 7, 11, 38, 39, 40, 41, 42, 43, 44, 45, 46, 47, 48, 49, 50, 51, 52, 53, 54, 55, 56, 57, 58, 59, 60, 61, 62, 63] (by decide +kernel) (by decide +kernel)
set_option maxRecDepth 20000 in
theorem gX8_peg_X8_isPeg : GoodIn wsX8_peg (wsV RX8 163 RX8 yX8_isPeg wsX8_isPeg) := goodIn_app (goodIn_of _ (by decide +kernel)) ggX8_peg_X8_isPeg
set_option maxRecDepth 20000 in
theorem ggX8_peg_X8_reach : GoodIn wsX8_peg wsX8_reach := goodIn_r _ [14] (by decide +kernel) (by decide +kernel)
set_option maxRecDepth 20000 in
theorem gX8_peg_X8_reach : GoodIn wsX8_peg (va_wsS RX8 166 yX8_reach wsX8_reach) := goodIn_app (goodIn_of _ (by decide +kernel)) ggX8_peg_X8_reach
set_option maxRecDepth 20000 in
theorem ggX8_peg_X8_nowOf : GoodIn wsX8_peg wsX8_nowOf := goodIn_r _ [17, 18, 19, 7, 20, 9, 10, 11] (by decide +kernel) (by decide +kernel)
set_option maxRecDepth 20000 in
theorem gX8_peg_X8_nowOf : GoodIn wsX8_peg (va_wsS RX8 150 yX8_nowOf wsX8_nowOf) := goodIn_app (goodIn_of _ (by decide +kernel)) ggX8_peg_X8_nowOf
set_option maxRecDepth 20000 in
theorem ggX8_peg_X8_step : GoodIn wsX8_peg wsX8_step := goodIn_r _ [23, 24, 25, 7, 26, 15, 16, 17, 18, 19, 20, 9, 10, 11, 27, 28, 29] (by decide +kernel) (by decide +kernel)
set_option maxRecDepth 20000 in
theorem gX8_peg_X8_step : GoodIn wsX8_peg (va_wsS RX8 156 yX8_step wsX8_step) := goodIn_app (goodIn_of _ (by decide +kernel)) ggX8_peg_X8_step
set_option maxRecDepth 20000 in
theorem ggX8_peg_X8_wish : GoodIn wsX8_peg wsX8_wish := goodIn_r _ [33, 2, 38, 39, 40, 41, 42, 43, 44, 45, 46, 47, 48, 49, 50, 51, 52, 53, 54, 55, 56, 57, 58, 59, 60, 61, 62, 63] (by decide +kernel) (by decide +kernel)
set_option maxRecDepth 20000 in
theorem gX8_peg_X8_wish : GoodIn wsX8_peg (wsV RX8 191 RX8 yX8_wish wsX8_wish) := goodIn_app (goodIn_of _ (by decide +kernel)) ggX8_peg_X8_wish
set_option maxRecDepth 20000 in
theorem ggX8_peg_X8_secondSum : GoodIn wsX8_peg wsX8_secondSum := goodIn_r _ [37, 2, 30, 31, 32, 7, 33, 38, 39, 40, 41, 42, 43, 44, 45, 46, 47, 48, 49, 50, 51, 52, 53, 54, 55, 56, 57, 58, 59, 60, 61, 62, 63] (by decide +kernel) (by decide +kernel)
set_option maxRecDepth 20000 in
theorem gX8_peg_X8_secondSum : GoodIn wsX8_peg (wsV RX8 194 RX8 yX8_secondSum wsX8_secondSum) := goodIn_app (goodIn_of _ (by decide +kernel)) ggX8_peg_X8_secondSum
theorem dX8_peg_0 : decode cX8_peg 0 = .ok (.aload_n 0, 1) := by decide +kernel
theorem dX8_peg_1 : decode cX8_peg 1 = .ok (.iload_n 1, 1) := by decide +kernel
theorem dX8_peg_2 : decode cX8_peg 2 = .ok (.invokevirtual 163, 3) := by decide +kernel
theorem dX8_peg_5 : decode cX8_peg 5 = .ok (.ifCond .ne 6, 3) := by decide +kernel
theorem dX8_peg_8 : decode cX8_peg 8 = .ok (.ldc 67, 2) := by decide +kernel
theorem dX8_peg_10 : decode cX8_peg 10 = .ok (.ireturn, 1) := by decide +kernel
theorem dX8_peg_11 : decode cX8_peg 11 = .ok (.iload_n 2, 1) := by decide +kernel
theorem dX8_peg_12 : decode cX8_peg 12 = .ok (.tableswitch 143 0 7 #[48, 61, 74, 83, 96, 105, 131, 137], 48) := by decide +kernel
theorem dX8_peg_60 : decode cX8_peg 60 = .ok (.aload_n 0, 1) := by decide +kernel
theorem dX8_peg_61 : decode cX8_peg 61 = .ok (.getfield 25, 3) := by decide +kernel
theorem dX8_peg_64 : decode cX8_peg 64 = .ok (.iconst 2, 1) := by decide +kernel
theorem dX8_peg_65 : decode cX8_peg 65 = .ok (.iconst 4, 1) := by decide +kernel
theorem dX8_peg_66 : decode cX8_peg 66 = .ok (.iload_n 1, 1) := by decide +kernel
theorem dX8_peg_67 : decode cX8_peg 67 = .ok (.imul, 1) := by decide +kernel
theorem dX8_peg_68 : decode cX8_peg 68 = .ok (.iadd, 1) := by decide +kernel
theorem dX8_peg_69 : decode cX8_peg 69 = .ok (.iconst 1, 1) := by decide +kernel
theorem dX8_peg_70 : decode cX8_peg 70 = .ok (.iadd, 1) := by decide +kernel
theorem dX8_peg_71 : decode cX8_peg 71 = .ok (.iaload, 1) := by decide +kernel
theorem dX8_peg_72 : decode cX8_peg 72 = .ok (.ireturn, 1) := by decide +kernel
theorem dX8_peg_73 : decode cX8_peg 73 = .ok (.aload_n 0, 1) := by decide +kernel
theorem dX8_peg_74 : decode cX8_peg 74 = .ok (.getfield 25, 3) := by decide +kernel
theorem dX8_peg_77 : decode cX8_peg 77 = .ok (.iconst 2, 1) := by decide +kernel
theorem dX8_peg_78 : decode cX8_peg 78 = .ok (.iconst 4, 1) := by decide +kernel
theorem dX8_peg_79 : decode cX8_peg 79 = .ok (.iload_n 1, 1) := by decide +kernel
theorem dX8_peg_80 : decode cX8_peg 80 = .ok (.imul, 1) := by decide +kernel
theorem dX8_peg_81 : decode cX8_peg 81 = .ok (.iadd, 1) := by decide +kernel
theorem dX8_peg_82 : decode cX8_peg 82 = .ok (.iconst 2, 1) := by decide +kernel
theorem dX8_peg_83 : decode cX8_peg 83 = .ok (.iadd, 1) := by decide +kernel
theorem dX8_peg_84 : decode cX8_peg 84 = .ok (.iaload, 1) := by decide +kernel
theorem dX8_peg_85 : decode cX8_peg 85 = .ok (.ireturn, 1) := by decide +kernel
theorem dX8_peg_86 : decode cX8_peg 86 = .ok (.aload_n 0, 1) := by decide +kernel
theorem dX8_peg_87 : decode cX8_peg 87 = .ok (.getfield 25, 3) := by decide +kernel
theorem dX8_peg_90 : decode cX8_peg 90 = .ok (.iload_n 1, 1) := by decide +kernel
theorem dX8_peg_91 : decode cX8_peg 91 = .ok (.invokestatic 166, 3) := by decide +kernel
theorem dX8_peg_94 : decode cX8_peg 94 = .ok (.ireturn, 1) := by decide +kernel
theorem dX8_peg_95 : decode cX8_peg 95 = .ok (.aload_n 0, 1) := by decide +kernel
theorem dX8_peg_96 : decode cX8_peg 96 = .ok (.getfield 25, 3) := by decide +kernel
theorem dX8_peg_99 : decode cX8_peg 99 = .ok (.iconst 2, 1) := by decide +kernel
theorem dX8_peg_100 : decode cX8_peg 100 = .ok (.iconst 4, 1) := by decide +kernel
theorem dX8_peg_101 : decode cX8_peg 101 = .ok (.iload_n 1, 1) := by decide +kernel
theorem dX8_peg_102 : decode cX8_peg 102 = .ok (.imul, 1) := by decide +kernel
theorem dX8_peg_103 : decode cX8_peg 103 = .ok (.iadd, 1) := by decide +kernel
theorem dX8_peg_104 : decode cX8_peg 104 = .ok (.iconst 3, 1) := by decide +kernel
theorem dX8_peg_105 : decode cX8_peg 105 = .ok (.iadd, 1) := by decide +kernel
theorem dX8_peg_106 : decode cX8_peg 106 = .ok (.iaload, 1) := by decide +kernel
theorem dX8_peg_107 : decode cX8_peg 107 = .ok (.ireturn, 1) := by decide +kernel
theorem dX8_peg_108 : decode cX8_peg 108 = .ok (.aload_n 0, 1) := by decide +kernel
theorem dX8_peg_109 : decode cX8_peg 109 = .ok (.getfield 25, 3) := by decide +kernel
theorem dX8_peg_112 : decode cX8_peg 112 = .ok (.iload_n 1, 1) := by decide +kernel
theorem dX8_peg_113 : decode cX8_peg 113 = .ok (.invokestatic 150, 3) := by decide +kernel
theorem dX8_peg_116 : decode cX8_peg 116 = .ok (.ireturn, 1) := by decide +kernel
theorem dX8_peg_117 : decode cX8_peg 117 = .ok (.iload_n 1, 1) := by decide +kernel
theorem dX8_peg_118 : decode cX8_peg 118 = .ok (.iconst 1, 1) := by decide +kernel
theorem dX8_peg_119 : decode cX8_peg 119 = .ok (.iadd, 1) := by decide +kernel
theorem dX8_peg_120 : decode cX8_peg 120 = .ok (.aload_n 0, 1) := by decide +kernel
theorem dX8_peg_121 : decode cX8_peg 121 = .ok (.getfield 25, 3) := by decide +kernel
theorem dX8_peg_124 : decode cX8_peg 124 = .ok (.iconst 0, 1) := by decide +kernel
theorem dX8_peg_125 : decode cX8_peg 125 = .ok (.iaload, 1) := by decide +kernel
theorem dX8_peg_126 : decode cX8_peg 126 = .ok (.if_icmp .ne 8, 3) := by decide +kernel
theorem dX8_peg_129 : decode cX8_peg 129 = .ok (.ldc 53, 2) := by decide +kernel
theorem dX8_peg_131 : decode cX8_peg 131 = .ok (.goto 11, 3) := by decide +kernel
theorem dX8_peg_134 : decode cX8_peg 134 = .ok (.aload_n 0, 1) := by decide +kernel
theorem dX8_peg_135 : decode cX8_peg 135 = .ok (.getfield 25, 3) := by decide +kernel
theorem dX8_peg_138 : decode cX8_peg 138 = .ok (.iload_n 1, 1) := by decide +kernel
theorem dX8_peg_139 : decode cX8_peg 139 = .ok (.invokestatic 156, 3) := by decide +kernel
theorem dX8_peg_142 : decode cX8_peg 142 = .ok (.ireturn, 1) := by decide +kernel
theorem dX8_peg_143 : decode cX8_peg 143 = .ok (.aload_n 0, 1) := by decide +kernel
theorem dX8_peg_144 : decode cX8_peg 144 = .ok (.iload_n 1, 1) := by decide +kernel
theorem dX8_peg_145 : decode cX8_peg 145 = .ok (.invokevirtual 191, 3) := by decide +kernel
theorem dX8_peg_148 : decode cX8_peg 148 = .ok (.ireturn, 1) := by decide +kernel
theorem dX8_peg_149 : decode cX8_peg 149 = .ok (.aload_n 0, 1) := by decide +kernel
theorem dX8_peg_150 : decode cX8_peg 150 = .ok (.iload_n 1, 1) := by decide +kernel
theorem dX8_peg_151 : decode cX8_peg 151 = .ok (.invokevirtual 194, 3) := by decide +kernel
theorem dX8_peg_154 : decode cX8_peg 154 = .ok (.ireturn, 1) := by decide +kernel
theorem dX8_peg_155 : decode cX8_peg 155 = .ok (.ldc 67, 2) := by decide +kernel
theorem dX8_peg_157 : decode cX8_peg 157 = .ok (.ireturn, 1) := by decide +kernel
def rmX8_peg : Room := { frames := 4, cells := 0, slots := 0, locals := 85 }
def wX8_peg (M : zM) (o0 : Nat) (x1 : Int32) (x2 : Int32) (Q : Int32 → Prop) : Prop :=
    wX8_isPeg M o0 x1 (fun r5 =>
    ((¬ r5 = 0) → (
    ((x2.toInt < 0 ∨ 7 < x2.toInt) → (
    Q (-1000001 : Int32))) ∧
    ((x2.toInt = 0) → (
    ∀ x6 : Int32, x6 = (((2 : Int32) + ((4 : Int32) * x1)) + (1 : Int32)) →
    vp_in x6 50 ∧
    Q (M (o0 + 6) x6.toNatClampNeg))) ∧
    ((x2.toInt = 1) → (
    ∀ x7 : Int32, x7 = (((2 : Int32) + ((4 : Int32) * x1)) + (2 : Int32)) →
    vp_in x7 50 ∧
    Q (M (o0 + 6) x7.toNatClampNeg))) ∧
    ((x2.toInt = 2) → (
    wX8_reach M (o0 + 6) 50 x1 (fun r8 =>
    Q r8))) ∧
    ((x2.toInt = 3) → (
    ∀ x9 : Int32, x9 = (((2 : Int32) + ((4 : Int32) * x1)) + (3 : Int32)) →
    vp_in x9 50 ∧
    Q (M (o0 + 6) x9.toNatClampNeg))) ∧
    ((x2.toInt = 4) → (
    wX8_nowOf M (o0 + 6) 50 x1 (fun r10 =>
    Q r10))) ∧
    ((x2.toInt = 5) → (
    ((¬ (x1 + (1 : Int32)) = (M (o0 + 6) (0 : Int32).toNatClampNeg)) → (
    wX8_step M (o0 + 6) 50 x1 (fun r11 =>
    Q r11))) ∧
    (((x1 + (1 : Int32)) = (M (o0 + 6) (0 : Int32).toNatClampNeg)) → (
    Q (-1000000 : Int32))))) ∧
    ((x2.toInt = 6) → (
    wX8_wish M o0 x1 (fun r12 =>
    Q r12))) ∧
    ((x2.toInt = 7) → (
    wX8_secondSum M o0 x1 (fun r13 =>
    Q r13))))) ∧
    ((r5 = 0) → (
    Q (-1000001 : Int32))))
set_option maxHeartbeats 4000000 in
set_option maxRecDepth 100000 in
theorem kX8_peg {l : Launch} {D : va_G} {Y : zY} {ad kd : Nat → Nat} {RL : List Nat} {M : zM} {J : zL} {o0 : Nat} {x1 : Int32} {x2 : Int32} (h_o0 : kd o0 = 8) {Q : Int32 → Prop} (hq : wX8_peg M o0 x1 x2 Q) : zCi l yX8_peg wsX8_peg rmX8_peg [.ref (ad o0), .int x1, .int x2] D Y ad kd RL M J (fun r M' J' => Q r ∧ M = M' ∧ J = J') := by
  refine z_meti (cc := cX8_peg) (maxL := 3) (ret := (some .int)) (by decide) rfl (Nat.le_of_ble_eq_true rfl) ?_
  intro p e s m below meth c ls A ar QE hQE hx hb hr hml hown hts hlk hw hl
  have hown : s.vm.findClass RX8 = some m.cls := hown
  have hl : lv_has ls 3 [(0, .ref (ad o0)), (1, .int x1), (2, .int x2)] := hl
  have hC := hw.2.2.2.2.2.1
  have g8 : ∀ w ∈ wsX80, w.before ar s = true := (fun w h => hts w (List.mem_cons_of_mem _ (List.mem_append_right _ h)))
  have q1 := hts _ (List.mem_of_getElem? (i := 1) rfl)
  have q2 := hts _ (List.mem_of_getElem? (i := 2) rfl)
  have q3 := hts _ (List.mem_of_getElem? (i := 3) rfl)
  unfold wX8_peg at hq
  refine lv_aload_n hx hb dX8_peg_0 rfl (lv_at hl 0 rfl) ?_
  refine lv_iload_n hx hb dX8_peg_1 rfl (lv_at hl 1 rfl) ?_
  refine z_cvi ⟨hx, hb, hml, hown, hts⟩ hw h_o0 (kX8_isPeg h_o0 hq) (by decide) rfl (cwV 1 hts gX8_peg_X8_isPeg rfl rfl rfl (by decide +kernel) ⟨Nat.le_of_ble_eq_true rfl, Nat.le_of_ble_eq_true rfl⟩) rfl hl.1 rfl (Nat.le_of_ble_eq_true rfl) dX8_peg_2 ⟨Nat.zero_le _, Nat.zero_le _⟩ (fun r5 M0 J0 H locs hq hw => ?_)
  obtain ⟨hq, rfl, rfl⟩ := hq
  refine lv_if_ne (tgt := 11) hx hb dX8_peg_5 (by decide) (fun hc => ?_) (fun hc => ?_)
  · have hq := hq.1 hc
    refine lv_iload_n hx hb dX8_peg_11 rfl (lv_at hl 2 rfl) ?_
    by_cases hsw : x2.toInt < 0 ∨ 7 < x2.toInt
    · refine lv_tableOut (tgt := 155) hx hb dX8_peg_12 hsw (by decide) ?_
      have hq := hq.1 hsw
      refine lv_ldc (v := (-1000001 : Int32)) hx hb hown q1 dX8_peg_155 ?_
      exact z_iret hQE hx hb hr hlk hw dX8_peg_157 ⟨hq, rfl, rfl⟩
    · have hq := hq.2
      rcases (show x2.toInt = 0 ∨ x2.toInt = 1 ∨ x2.toInt = 2 ∨ x2.toInt = 3 ∨ x2.toInt = 4 ∨ x2.toInt = 5 ∨ x2.toInt = 6 ∨ x2.toInt = 7 by omega) with hs | hs | hs | hs | hs | hs | hs | hs
      · refine lv_tableIn (off := 48) (tgt := 60) hx hb dX8_peg_12 (by omega) (by omega) (by rw [hs]; rfl) (by decide) ?_
        have hq := hq.1 hs
        refine lv_aload_n hx hb dX8_peg_60 rfl (lv_at hl 0 rfl) ?_
        refine zg8_now hx hb g8 hown hw h_o0 q2 dX8_peg_61 ?_
        refine lv_iconst (v := (2 : Int32)) hx hb dX8_peg_64 (by decide) ?_
        refine lv_iconst (v := (4 : Int32)) hx hb dX8_peg_65 (by decide) ?_
        refine lv_iload_n hx hb dX8_peg_66 rfl (lv_at hl 1 rfl) ?_
        refine lv_imul hx hb dX8_peg_67 ?_
        refine lv_iadd hx hb dX8_peg_68 ?_
        refine lv_iconst (v := (1 : Int32)) hx hb dX8_peg_69 (by decide) ?_
        refine lv_iadd hx hb dX8_peg_70 ?_
        refine lv_topi (fun x6 e_x6 => ?_)
        have hq := hq x6 e_x6
        obtain ⟨hi, hq⟩ := hq
        refine z_iald (n := 50) hx hb hw (zk_8_6 hC h_o0) hi dX8_peg_71 ?_
        exact z_iret hQE hx hb hr hlk hw dX8_peg_72 ⟨hq, rfl, rfl⟩
      · refine lv_tableIn (off := 61) (tgt := 73) hx hb dX8_peg_12 (by omega) (by omega) (by rw [hs]; rfl) (by decide) ?_
        have hq := hq.2.1 hs
        refine lv_aload_n hx hb dX8_peg_73 rfl (lv_at hl 0 rfl) ?_
        refine zg8_now hx hb g8 hown hw h_o0 q2 dX8_peg_74 ?_
        refine lv_iconst (v := (2 : Int32)) hx hb dX8_peg_77 (by decide) ?_
        refine lv_iconst (v := (4 : Int32)) hx hb dX8_peg_78 (by decide) ?_
        refine lv_iload_n hx hb dX8_peg_79 rfl (lv_at hl 1 rfl) ?_
        refine lv_imul hx hb dX8_peg_80 ?_
        refine lv_iadd hx hb dX8_peg_81 ?_
        refine lv_iconst (v := (2 : Int32)) hx hb dX8_peg_82 (by decide) ?_
        refine lv_iadd hx hb dX8_peg_83 ?_
        refine lv_topi (fun x7 e_x7 => ?_)
        have hq := hq x7 e_x7
        obtain ⟨hi, hq⟩ := hq
        refine z_iald (n := 50) hx hb hw (zk_8_6 hC h_o0) hi dX8_peg_84 ?_
        exact z_iret hQE hx hb hr hlk hw dX8_peg_85 ⟨hq, rfl, rfl⟩
      · refine lv_tableIn (off := 74) (tgt := 86) hx hb dX8_peg_12 (by omega) (by omega) (by rw [hs]; rfl) (by decide) ?_
        have hq := hq.2.2.1 hs
        refine lv_aload_n hx hb dX8_peg_86 rfl (lv_at hl 0 rfl) ?_
        refine zg8_now hx hb g8 hown hw h_o0 q2 dX8_peg_87 ?_
        refine lv_iload_n hx hb dX8_peg_90 rfl (lv_at hl 1 rfl) ?_
        refine z_csi ⟨hx, hb, hml, hown, hts⟩ hw (kX8_reach (zk_8_6 hC h_o0) hq) (va_cwS 2 hts gX8_peg_X8_reach rfl rfl rfl (by decide +kernel) ⟨Nat.le_of_ble_eq_true rfl, Nat.le_of_ble_eq_true rfl⟩) rfl hl.1 rfl (Nat.le_of_ble_eq_true rfl) dX8_peg_91 ⟨Nat.zero_le _, Nat.zero_le _⟩ (fun r8 M0 J0 H locs hq hw => ?_)
        obtain ⟨hq, rfl, rfl⟩ := hq
        exact z_iret hQE hx hb hr hlk hw dX8_peg_94 ⟨hq, rfl, rfl⟩
      · refine lv_tableIn (off := 83) (tgt := 95) hx hb dX8_peg_12 (by omega) (by omega) (by rw [hs]; rfl) (by decide) ?_
        have hq := hq.2.2.2.1 hs
        refine lv_aload_n hx hb dX8_peg_95 rfl (lv_at hl 0 rfl) ?_
        refine zg8_now hx hb g8 hown hw h_o0 q2 dX8_peg_96 ?_
        refine lv_iconst (v := (2 : Int32)) hx hb dX8_peg_99 (by decide) ?_
        refine lv_iconst (v := (4 : Int32)) hx hb dX8_peg_100 (by decide) ?_
        refine lv_iload_n hx hb dX8_peg_101 rfl (lv_at hl 1 rfl) ?_
        refine lv_imul hx hb dX8_peg_102 ?_
        refine lv_iadd hx hb dX8_peg_103 ?_
        refine lv_iconst (v := (3 : Int32)) hx hb dX8_peg_104 (by decide) ?_
        refine lv_iadd hx hb dX8_peg_105 ?_
        refine lv_topi (fun x9 e_x9 => ?_)
        have hq := hq x9 e_x9
        obtain ⟨hi, hq⟩ := hq
        refine z_iald (n := 50) hx hb hw (zk_8_6 hC h_o0) hi dX8_peg_106 ?_
        exact z_iret hQE hx hb hr hlk hw dX8_peg_107 ⟨hq, rfl, rfl⟩
      · refine lv_tableIn (off := 96) (tgt := 108) hx hb dX8_peg_12 (by omega) (by omega) (by rw [hs]; rfl) (by decide) ?_
        have hq := hq.2.2.2.2.1 hs
        refine lv_aload_n hx hb dX8_peg_108 rfl (lv_at hl 0 rfl) ?_
        refine zg8_now hx hb g8 hown hw h_o0 q2 dX8_peg_109 ?_
        refine lv_iload_n hx hb dX8_peg_112 rfl (lv_at hl 1 rfl) ?_
        refine z_csi ⟨hx, hb, hml, hown, hts⟩ hw (kX8_nowOf (zk_8_6 hC h_o0) hq) (va_cwS 2 hts gX8_peg_X8_nowOf rfl rfl rfl (by decide +kernel) ⟨Nat.le_of_ble_eq_true rfl, Nat.le_of_ble_eq_true rfl⟩) rfl hl.1 rfl (Nat.le_of_ble_eq_true rfl) dX8_peg_113 ⟨Nat.zero_le _, Nat.zero_le _⟩ (fun r10 M0 J0 H locs hq hw => ?_)
        obtain ⟨hq, rfl, rfl⟩ := hq
        exact z_iret hQE hx hb hr hlk hw dX8_peg_116 ⟨hq, rfl, rfl⟩
      · refine lv_tableIn (off := 105) (tgt := 117) hx hb dX8_peg_12 (by omega) (by omega) (by rw [hs]; rfl) (by decide) ?_
        have hq := hq.2.2.2.2.2.1 hs
        refine lv_iload_n hx hb dX8_peg_117 rfl (lv_at hl 1 rfl) ?_
        refine lv_iconst (v := (1 : Int32)) hx hb dX8_peg_118 (by decide) ?_
        refine lv_iadd hx hb dX8_peg_119 ?_
        refine lv_aload_n hx hb dX8_peg_120 rfl (lv_at hl 0 rfl) ?_
        refine zg8_now hx hb g8 hown hw h_o0 q2 dX8_peg_121 ?_
        refine lv_iconst (v := (0 : Int32)) hx hb dX8_peg_124 (by decide) ?_
        have hi : vp_in (0 : Int32) 50 := by unfold vp_in; decide
        refine z_iald (n := 50) hx hb hw (zk_8_6 hC h_o0) hi dX8_peg_125 ?_
        refine lv_icmp_ne (tgt := 134) hx hb dX8_peg_126 (by decide) (fun hc => ?_) (fun hc => ?_)
        · have hq := hq.1 hc
          refine lv_aload_n hx hb dX8_peg_134 rfl (lv_at hl 0 rfl) ?_
          refine zg8_now hx hb g8 hown hw h_o0 q2 dX8_peg_135 ?_
          refine lv_iload_n hx hb dX8_peg_138 rfl (lv_at hl 1 rfl) ?_
          refine z_csi ⟨hx, hb, hml, hown, hts⟩ hw (kX8_step (zk_8_6 hC h_o0) hq) (va_cwS 2 hts gX8_peg_X8_step rfl rfl rfl (by decide +kernel) ⟨Nat.le_of_ble_eq_true rfl, Nat.le_of_ble_eq_true rfl⟩) rfl hl.1 rfl (Nat.le_of_ble_eq_true rfl) dX8_peg_139 ⟨Nat.zero_le _, Nat.zero_le _⟩ (fun r11 M0 J0 H locs hq hw => ?_)
          obtain ⟨hq, rfl, rfl⟩ := hq
          exact z_iret hQE hx hb hr hlk hw dX8_peg_142 ⟨hq, rfl, rfl⟩
        · have hq := hq.2 hc
          refine lv_ldc (v := (-1000000 : Int32)) hx hb hown q3 dX8_peg_129 ?_
          refine lv_goto (tgt := 142) hx hb dX8_peg_131 (by decide) ?_
          exact z_iret hQE hx hb hr hlk hw dX8_peg_142 ⟨hq, rfl, rfl⟩
      · refine lv_tableIn (off := 131) (tgt := 143) hx hb dX8_peg_12 (by omega) (by omega) (by rw [hs]; rfl) (by decide) ?_
        have hq := hq.2.2.2.2.2.2.1 hs
        refine lv_aload_n hx hb dX8_peg_143 rfl (lv_at hl 0 rfl) ?_
        refine lv_iload_n hx hb dX8_peg_144 rfl (lv_at hl 1 rfl) ?_
        refine z_cvi ⟨hx, hb, hml, hown, hts⟩ hw h_o0 (kX8_wish h_o0 hq) (by decide) rfl (cwV 1 hts gX8_peg_X8_wish rfl rfl rfl (by decide +kernel) ⟨Nat.le_of_ble_eq_true rfl, Nat.le_of_ble_eq_true rfl⟩) rfl hl.1 rfl (Nat.le_of_ble_eq_true rfl) dX8_peg_145 ⟨Nat.zero_le _, Nat.zero_le _⟩ (fun r12 M0 J0 H locs hq hw => ?_)
        obtain ⟨hq, rfl, rfl⟩ := hq
        exact z_iret hQE hx hb hr hlk hw dX8_peg_148 ⟨hq, rfl, rfl⟩
      · refine lv_tableIn (off := 137) (tgt := 149) hx hb dX8_peg_12 (by omega) (by omega) (by rw [hs]; rfl) (by decide) ?_
        have hq := hq.2.2.2.2.2.2.2 hs
        refine lv_aload_n hx hb dX8_peg_149 rfl (lv_at hl 0 rfl) ?_
        refine lv_iload_n hx hb dX8_peg_150 rfl (lv_at hl 1 rfl) ?_
        refine z_cvi ⟨hx, hb, hml, hown, hts⟩ hw h_o0 (kX8_secondSum h_o0 hq) (by decide) rfl (cwV 1 hts gX8_peg_X8_secondSum rfl rfl rfl (by decide +kernel) ⟨Nat.le_of_ble_eq_true rfl, Nat.le_of_ble_eq_true rfl⟩) rfl hl.1 rfl (Nat.le_of_ble_eq_true rfl) dX8_peg_151 ⟨Nat.zero_le _, Nat.zero_le _⟩ (fun r13 M0 J0 H locs hq hw => ?_)
        obtain ⟨hq, rfl, rfl⟩ := hq
        exact z_iret hQE hx hb hr hlk hw dX8_peg_154 ⟨hq, rfl, rfl⟩
  · have hq := hq.2 hc
    refine lv_ldc (v := (-1000001 : Int32)) hx hb hown q1 dX8_peg_8 ?_
    exact z_iret hQE hx hb hr hlk hw dX8_peg_10 ⟨hq, rfl, rfl⟩
set_option maxRecDepth 20000 in
theorem ggX8_line_X8_isRail : GoodIn wsX8_line wsX8_isRail := goodIn_r _ [8, 2, 45, 46, 47, 48, 49, 50, 51, 52, 53, 54, 55, 56, 57, 58, 59, 60, 61, 62, 63, 64, 65, 66, 67, 68, 69, 70] (by decide +kernel) (by decide +kernel)
set_option maxRecDepth 20000 in
theorem gX8_line_X8_isRail : GoodIn wsX8_line (wsV RX8 173 RX8 yX8_isRail wsX8_isRail) := goodIn_app (goodIn_of _ (by decide +kernel)) ggX8_line_X8_isRail
set_option maxRecDepth 20000 in
theorem ggX8_line_X8_nowOf : GoodIn wsX8_line wsX8_nowOf := goodIn_r _ [11, 12, 13, 7, 14, 15, 16, 17] (by decide +kernel) (by decide +kernel)
set_option maxRecDepth 20000 in
theorem gX8_line_X8_nowOf : GoodIn wsX8_line (va_wsS RX8 150 yX8_nowOf wsX8_nowOf) := goodIn_app (goodIn_of _ (by decide +kernel)) ggX8_line_X8_nowOf
set_option maxRecDepth 20000 in
theorem ggX8_line_X8_worst : GoodIn wsX8_line wsX8_worst := goodIn_r _ [20, 21, 22, 7, 23, 24, 25, 26, 9, 10, 11, 12, 13, 14, 15, 16, 17, 27, 28, 29] (by decide +kernel) (by decide +kernel)
set_option maxRecDepth 20000 in
theorem gX8_line_X8_worst : GoodIn wsX8_line (va_wsS RX8 188 yX8_worst wsX8_worst) := goodIn_app (goodIn_of _ (by decide +kernel)) ggX8_line_X8_worst
set_option maxRecDepth 20000 in
theorem ggX8_line_X8_uneven : GoodIn wsX8_line wsX8_uneven := goodIn_r _ [32, 21, 22, 7, 23, 24, 25, 26, 9, 10, 11, 12, 13, 14, 15, 16, 17, 27, 28, 29] (by decide +kernel) (by decide +kernel)
set_option maxRecDepth 20000 in
theorem gX8_line_X8_uneven : GoodIn wsX8_line (va_wsS RX8 197 yX8_uneven wsX8_uneven) := goodIn_app (goodIn_of _ (by decide +kernel)) ggX8_line_X8_uneven
set_option maxRecDepth 20000 in
theorem ggX8_line_X8_isClosing : GoodIn wsX8_line wsX8_isClosing := goodIn_r _ [36, 2, 37, 38, 39, 7, 40, 41, 42, 43, 44, 45, 46, 47, 48, 49, 50, 51, 52, 53, 54, 55, 56, 57, 58, 59, 60, 61, 62, 63, 64, 65, 66, 67, 68, 69, 70] (by decide +kernel) (by decide +kernel)
set_option maxRecDepth 20000 in
theorem gX8_line_X8_isClosing : GoodIn wsX8_line (wsV RX8 200 RX8 yX8_isClosing wsX8_isClosing) := goodIn_app (goodIn_of _ (by decide +kernel)) ggX8_line_X8_isClosing
theorem dX8_line_0 : decode cX8_line 0 = .ok (.aload_n 0, 1) := by decide +kernel
theorem dX8_line_1 : decode cX8_line 1 = .ok (.invokevirtual 173, 3) := by decide +kernel
theorem dX8_line_4 : decode cX8_line 4 = .ok (.ifCond .ne 6, 3) := by decide +kernel
theorem dX8_line_7 : decode cX8_line 7 = .ok (.ldc 169, 2) := by decide +kernel
theorem dX8_line_9 : decode cX8_line 9 = .ok (.ireturn, 1) := by decide +kernel
theorem dX8_line_10 : decode cX8_line 10 = .ok (.iconst 0, 1) := by decide +kernel
theorem dX8_line_11 : decode cX8_line 11 = .ok (.istore_n 2, 1) := by decide +kernel
theorem dX8_line_12 : decode cX8_line 12 = .ok (.iconst 0, 1) := by decide +kernel
theorem dX8_line_13 : decode cX8_line 13 = .ok (.istore_n 3, 1) := by decide +kernel
theorem dX8_line_14 : decode cX8_line 14 = .ok (.iconst 0, 1) := by decide +kernel
theorem dX8_line_15 : decode cX8_line 15 = .ok (.istore 4, 2) := by decide +kernel
theorem dX8_line_17 : decode cX8_line 17 = .ok (.iload 4, 2) := by decide +kernel
theorem dX8_line_19 : decode cX8_line 19 = .ok (.aload_n 0, 1) := by decide +kernel
theorem dX8_line_20 : decode cX8_line 20 = .ok (.getfield 25, 3) := by decide +kernel
theorem dX8_line_23 : decode cX8_line 23 = .ok (.iconst 0, 1) := by decide +kernel
theorem dX8_line_24 : decode cX8_line 24 = .ok (.iaload, 1) := by decide +kernel
theorem dX8_line_25 : decode cX8_line 25 = .ok (.if_icmp .ge 37, 3) := by decide +kernel
theorem dX8_line_28 : decode cX8_line 28 = .ok (.iload_n 2, 1) := by decide +kernel
theorem dX8_line_29 : decode cX8_line 29 = .ok (.aload_n 0, 1) := by decide +kernel
theorem dX8_line_30 : decode cX8_line 30 = .ok (.getfield 25, 3) := by decide +kernel
theorem dX8_line_33 : decode cX8_line 33 = .ok (.iload 4, 2) := by decide +kernel
theorem dX8_line_35 : decode cX8_line 35 = .ok (.invokestatic 150, 3) := by decide +kernel
theorem dX8_line_38 : decode cX8_line 38 = .ok (.iadd, 1) := by decide +kernel
theorem dX8_line_39 : decode cX8_line 39 = .ok (.istore_n 2, 1) := by decide +kernel
theorem dX8_line_40 : decode cX8_line 40 = .ok (.iload_n 3, 1) := by decide +kernel
theorem dX8_line_41 : decode cX8_line 41 = .ok (.aload_n 0, 1) := by decide +kernel
theorem dX8_line_42 : decode cX8_line 42 = .ok (.getfield 25, 3) := by decide +kernel
theorem dX8_line_45 : decode cX8_line 45 = .ok (.iconst 2, 1) := by decide +kernel
theorem dX8_line_46 : decode cX8_line 46 = .ok (.iconst 4, 1) := by decide +kernel
theorem dX8_line_47 : decode cX8_line 47 = .ok (.iload 4, 2) := by decide +kernel
theorem dX8_line_49 : decode cX8_line 49 = .ok (.imul, 1) := by decide +kernel
theorem dX8_line_50 : decode cX8_line 50 = .ok (.iadd, 1) := by decide +kernel
theorem dX8_line_51 : decode cX8_line 51 = .ok (.iconst 3, 1) := by decide +kernel
theorem dX8_line_52 : decode cX8_line 52 = .ok (.iadd, 1) := by decide +kernel
theorem dX8_line_53 : decode cX8_line 53 = .ok (.iaload, 1) := by decide +kernel
theorem dX8_line_54 : decode cX8_line 54 = .ok (.iadd, 1) := by decide +kernel
theorem dX8_line_55 : decode cX8_line 55 = .ok (.istore_n 3, 1) := by decide +kernel
theorem dX8_line_56 : decode cX8_line 56 = .ok (.iinc 4 1, 3) := by decide +kernel
theorem dX8_line_59 : decode cX8_line 59 = .ok (.goto (-42), 3) := by decide +kernel
theorem dX8_line_62 : decode cX8_line 62 = .ok (.iload_n 1, 1) := by decide +kernel
theorem dX8_line_63 : decode cX8_line 63 = .ok (.tableswitch 66 0 4 #[33, 41, 49, 51, 53], 33) := by decide +kernel
theorem dX8_line_96 : decode cX8_line 96 = .ok (.aload_n 0, 1) := by decide +kernel
theorem dX8_line_97 : decode cX8_line 97 = .ok (.getfield 25, 3) := by decide +kernel
theorem dX8_line_100 : decode cX8_line 100 = .ok (.invokestatic 188, 3) := by decide +kernel
theorem dX8_line_103 : decode cX8_line 103 = .ok (.ireturn, 1) := by decide +kernel
theorem dX8_line_104 : decode cX8_line 104 = .ok (.aload_n 0, 1) := by decide +kernel
theorem dX8_line_105 : decode cX8_line 105 = .ok (.getfield 25, 3) := by decide +kernel
theorem dX8_line_108 : decode cX8_line 108 = .ok (.invokestatic 197, 3) := by decide +kernel
theorem dX8_line_111 : decode cX8_line 111 = .ok (.ireturn, 1) := by decide +kernel
theorem dX8_line_112 : decode cX8_line 112 = .ok (.iload_n 2, 1) := by decide +kernel
theorem dX8_line_113 : decode cX8_line 113 = .ok (.ireturn, 1) := by decide +kernel
theorem dX8_line_114 : decode cX8_line 114 = .ok (.iload_n 3, 1) := by decide +kernel
theorem dX8_line_115 : decode cX8_line 115 = .ok (.ireturn, 1) := by decide +kernel
theorem dX8_line_116 : decode cX8_line 116 = .ok (.aload_n 0, 1) := by decide +kernel
theorem dX8_line_117 : decode cX8_line 117 = .ok (.invokevirtual 200, 3) := by decide +kernel
theorem dX8_line_120 : decode cX8_line 120 = .ok (.ifCond .eq 7, 3) := by decide +kernel
theorem dX8_line_123 : decode cX8_line 123 = .ok (.iconst 1, 1) := by decide +kernel
theorem dX8_line_124 : decode cX8_line 124 = .ok (.goto 4, 3) := by decide +kernel
theorem dX8_line_127 : decode cX8_line 127 = .ok (.iconst 0, 1) := by decide +kernel
theorem dX8_line_128 : decode cX8_line 128 = .ok (.ireturn, 1) := by decide +kernel
theorem dX8_line_129 : decode cX8_line 129 = .ok (.ldc 67, 2) := by decide +kernel
theorem dX8_line_131 : decode cX8_line 131 = .ok (.ireturn, 1) := by decide +kernel
def rmX8_line : Room := { frames := 5, cells := 0, slots := 0, locals := 108 }
def lpX8_line_17 (M : zM) (o0 : Nat) (K17_62 : Int32 → Int32 → Int32 → Prop) : Nat → Int32 → Int32 → Int32 → Prop
  | 0, _, _, _ => False
  | fu17 + 1, x5, x6, x7 =>
    (((M (o0 + 6) (0 : Int32).toNatClampNeg) ≤ x7) → (
    K17_62 x5 x6 x7)) ∧
    ((¬ (M (o0 + 6) (0 : Int32).toNatClampNeg) ≤ x7) → (
    wX8_nowOf M (o0 + 6) 50 x7 (fun r14 =>
    ∀ x15 : Int32, x15 = (((2 : Int32) + ((4 : Int32) * x7)) + (3 : Int32)) →
    vp_in x15 50 ∧
    ∀ x16 : Int32, x16 = x7 + (1 : Int32) →
    lpX8_line_17 M o0 K17_62 fu17 (x5 + r14) (x6 + (M (o0 + 6) x15.toNatClampNeg)) x16)))
def wX8_line (M : zM) (o0 : Nat) (x1 : Int32) (Q : Int32 → Prop) : Prop :=
    wX8_isRail M o0 (fun r4 =>
    ((¬ r4 = 0) → (
    ∃ fu17 : Nat, lpX8_line_17 M o0 (fun x8 x9 x10 =>
    ((x1.toInt < 0 ∨ 4 < x1.toInt) → (
    Q (-1000001 : Int32))) ∧
    ((x1.toInt = 0) → (
    wX8_worst M (o0 + 6) 50 (fun r11 =>
    Q r11))) ∧
    ((x1.toInt = 1) → (
    wX8_uneven M (o0 + 6) 50 (fun r12 =>
    Q r12))) ∧
    ((x1.toInt = 2) → (
    Q x8)) ∧
    ((x1.toInt = 3) → (
    Q x9)) ∧
    ((x1.toInt = 4) → (
    wX8_isClosing M o0 (fun r13 =>
    ((r13 = 0) → (
    Q (0 : Int32))) ∧
    ((¬ r13 = 0) → (
    Q (1 : Int32))))))) fu17 (0 : Int32) (0 : Int32) (0 : Int32))) ∧
    ((r4 = 0) → (
    Q (-1000002 : Int32))))
set_option maxHeartbeats 4000000 in
set_option maxRecDepth 100000 in
theorem kX8_line {l : Launch} {D : va_G} {Y : zY} {ad kd : Nat → Nat} {RL : List Nat} {M : zM} {J : zL} {o0 : Nat} {x1 : Int32} (h_o0 : kd o0 = 8) {Q : Int32 → Prop} (hq : wX8_line M o0 x1 Q) : zCi l yX8_line wsX8_line rmX8_line [.ref (ad o0), .int x1] D Y ad kd RL M J (fun r M' J' => Q r ∧ M = M' ∧ J = J') := by
  refine z_meti (cc := cX8_line) (maxL := 5) (ret := (some .int)) (by decide) rfl (Nat.le_of_ble_eq_true rfl) ?_
  intro p e s m below meth c ls A ar QE hQE hx hb hr hml hown hts hlk hw hl
  have hown : s.vm.findClass RX8 = some m.cls := hown
  have hl : lv_has ls 5 [(0, .ref (ad o0)), (1, .int x1)] := hl
  have hC := hw.2.2.2.2.2.1
  have g8 : ∀ w ∈ wsX80, w.before ar s = true := (fun w h => hts w (List.mem_cons_of_mem _ (List.mem_append_right _ h)))
  have q1 := hts _ (List.mem_of_getElem? (i := 1) rfl)
  have q2 := hts _ (List.mem_of_getElem? (i := 2) rfl)
  have q3 := hts _ (List.mem_of_getElem? (i := 3) rfl)
  unfold wX8_line at hq
  refine lv_aload_n hx hb dX8_line_0 rfl (lv_at hl 0 rfl) ?_
  refine z_cvi ⟨hx, hb, hml, hown, hts⟩ hw h_o0 (kX8_isRail h_o0 hq) (by decide) rfl (cwV 0 hts gX8_line_X8_isRail rfl rfl rfl (by decide +kernel) ⟨Nat.le_of_ble_eq_true rfl, Nat.le_of_ble_eq_true rfl⟩) rfl hl.1 rfl (Nat.le_of_ble_eq_true rfl) dX8_line_1 ⟨Nat.zero_le _, Nat.zero_le _⟩ (fun r4 M0 J0 H locs hq hw => ?_)
  obtain ⟨hq, rfl, rfl⟩ := hq
  refine lv_if_ne (tgt := 10) hx hb dX8_line_4 (by decide) (fun hc => ?_) (fun hc => ?_)
  · have hq := hq.1 hc
    refine lv_iconst (v := (0 : Int32)) hx hb dX8_line_10 (by decide) ?_
    refine lv_istore_n (lv' := [(2, .int (0 : Int32)), (0, .ref (ad o0)), (1, .int x1)]) hx hb dX8_line_11 rfl hl (by decide) rfl (fun ls hl => ?_)
    refine lv_iconst (v := (0 : Int32)) hx hb dX8_line_12 (by decide) ?_
    refine lv_istore_n (lv' := [(3, .int (0 : Int32)), (2, .int (0 : Int32)), (0, .ref (ad o0)), (1, .int x1)]) hx hb dX8_line_13 rfl hl (by decide) rfl (fun ls hl => ?_)
    refine lv_iconst (v := (0 : Int32)) hx hb dX8_line_14 (by decide) ?_
    refine lv_istore (lv' := [(4, .int (0 : Int32)), (3, .int (0 : Int32)), (2, .int (0 : Int32)), (0, .ref (ad o0)), (1, .int x1)]) hx hb dX8_line_15 hl (by decide) rfl (fun ls hl => ?_)
    have ex17_62 : ∀ (x8 : Int32) (x9 : Int32) (x10 : Int32) (H : Heap) (locs : List Loc) (ls : Array Slot), (((x1.toInt < 0 ∨ 4 < x1.toInt) → ( Q (-1000001 : Int32))) ∧ ((x1.toInt = 0) → ( wX8_worst M (o0 + 6) 50 (fun r11 => Q r11))) ∧ ((x1.toInt = 1) → ( wX8_uneven M (o0 + 6) 50 (fun r12 => Q r12))) ∧ ((x1.toInt = 2) → ( Q x8)) ∧ ((x1.toInt = 3) → ( Q x9)) ∧ ((x1.toInt = 4) → ( wX8_isClosing M o0 (fun r13 => ((r13 = 0) → ( Q (0 : Int32))) ∧ ((¬ r13 = 0) → ( Q (1 : Int32))))))) → zH D Y ad kd RL M J A s.heap H locs s → lv_has ls 5 [(0, .ref (ad o0)), (1, .int x1), (2, .int x8), (3, .int x9)] → W p l e rmX8_line s m ar below meth c H locs 0 0 QE (F0 m 62 ls []) := by
      intro x8 x9 x10 H locs ls hq hw hl
      refine lv_iload_n hx hb dX8_line_62 rfl (lv_at hl 1 rfl) ?_
      by_cases hsw : x1.toInt < 0 ∨ 4 < x1.toInt
      · refine lv_tableOut (tgt := 129) hx hb dX8_line_63 hsw (by decide) ?_
        have hq := hq.1 hsw
        refine lv_ldc (v := (-1000001 : Int32)) hx hb hown q3 dX8_line_129 ?_
        exact z_iret hQE hx hb hr hlk hw dX8_line_131 ⟨hq, rfl, rfl⟩
      · have hq := hq.2
        rcases (show x1.toInt = 0 ∨ x1.toInt = 1 ∨ x1.toInt = 2 ∨ x1.toInt = 3 ∨ x1.toInt = 4 by omega) with hs | hs | hs | hs | hs
        · refine lv_tableIn (off := 33) (tgt := 96) hx hb dX8_line_63 (by omega) (by omega) (by rw [hs]; rfl) (by decide) ?_
          have hq := hq.1 hs
          refine lv_aload_n hx hb dX8_line_96 rfl (lv_at hl 0 rfl) ?_
          refine zg8_now hx hb g8 hown hw h_o0 q2 dX8_line_97 ?_
          refine z_csi ⟨hx, hb, hml, hown, hts⟩ hw (kX8_worst (zk_8_6 hC h_o0) hq) (va_cwS 1 hts gX8_line_X8_worst rfl rfl rfl (by decide +kernel) ⟨Nat.le_of_ble_eq_true rfl, Nat.le_of_ble_eq_true rfl⟩) rfl hl.1 rfl (Nat.le_of_ble_eq_true rfl) dX8_line_100 ⟨Nat.zero_le _, Nat.zero_le _⟩ (fun r11 M0 J0 H locs hq hw => ?_)
          obtain ⟨hq, rfl, rfl⟩ := hq
          exact z_iret hQE hx hb hr hlk hw dX8_line_103 ⟨hq, rfl, rfl⟩
        · refine lv_tableIn (off := 41) (tgt := 104) hx hb dX8_line_63 (by omega) (by omega) (by rw [hs]; rfl) (by decide) ?_
          have hq := hq.2.1 hs
          refine lv_aload_n hx hb dX8_line_104 rfl (lv_at hl 0 rfl) ?_
          refine zg8_now hx hb g8 hown hw h_o0 q2 dX8_line_105 ?_
          refine z_csi ⟨hx, hb, hml, hown, hts⟩ hw (kX8_uneven (zk_8_6 hC h_o0) hq) (va_cwS 1 hts gX8_line_X8_uneven rfl rfl rfl (by decide +kernel) ⟨Nat.le_of_ble_eq_true rfl, Nat.le_of_ble_eq_true rfl⟩) rfl hl.1 rfl (Nat.le_of_ble_eq_true rfl) dX8_line_108 ⟨Nat.zero_le _, Nat.zero_le _⟩ (fun r12 M0 J0 H locs hq hw => ?_)
          obtain ⟨hq, rfl, rfl⟩ := hq
          exact z_iret hQE hx hb hr hlk hw dX8_line_111 ⟨hq, rfl, rfl⟩
        · refine lv_tableIn (off := 49) (tgt := 112) hx hb dX8_line_63 (by omega) (by omega) (by rw [hs]; rfl) (by decide) ?_
          have hq := hq.2.2.1 hs
          refine lv_iload_n hx hb dX8_line_112 rfl (lv_at hl 2 rfl) ?_
          exact z_iret hQE hx hb hr hlk hw dX8_line_113 ⟨hq, rfl, rfl⟩
        · refine lv_tableIn (off := 51) (tgt := 114) hx hb dX8_line_63 (by omega) (by omega) (by rw [hs]; rfl) (by decide) ?_
          have hq := hq.2.2.2.1 hs
          refine lv_iload_n hx hb dX8_line_114 rfl (lv_at hl 3 rfl) ?_
          exact z_iret hQE hx hb hr hlk hw dX8_line_115 ⟨hq, rfl, rfl⟩
        · refine lv_tableIn (off := 53) (tgt := 116) hx hb dX8_line_63 (by omega) (by omega) (by rw [hs]; rfl) (by decide) ?_
          have hq := hq.2.2.2.2 hs
          refine lv_aload_n hx hb dX8_line_116 rfl (lv_at hl 0 rfl) ?_
          refine z_cvi ⟨hx, hb, hml, hown, hts⟩ hw h_o0 (kX8_isClosing h_o0 hq) (by decide) rfl (cwV 0 hts gX8_line_X8_isClosing rfl rfl rfl (by decide +kernel) ⟨Nat.le_of_ble_eq_true rfl, Nat.le_of_ble_eq_true rfl⟩) rfl hl.1 rfl (Nat.le_of_ble_eq_true rfl) dX8_line_117 ⟨Nat.zero_le _, Nat.zero_le _⟩ (fun r13 M0 J0 H locs hq hw => ?_)
          obtain ⟨hq, rfl, rfl⟩ := hq
          refine lv_if_eq (tgt := 127) hx hb dX8_line_120 (by decide) (fun hc => ?_) (fun hc => ?_)
          · have hq := hq.1 hc
            refine lv_iconst (v := (0 : Int32)) hx hb dX8_line_127 (by decide) ?_
            exact z_iret hQE hx hb hr hlk hw dX8_line_128 ⟨hq, rfl, rfl⟩
          · have hq := hq.2 hc
            refine lv_iconst (v := (1 : Int32)) hx hb dX8_line_123 (by decide) ?_
            refine lv_goto (tgt := 128) hx hb dX8_line_124 (by decide) ?_
            exact z_iret hQE hx hb hr hlk hw dX8_line_128 ⟨hq, rfl, rfl⟩
    obtain ⟨fu17, hq⟩ := hq
    have lp17 : ∀ (fu17 : Nat) (x5 : Int32) (x6 : Int32) (x7 : Int32) (H : Heap) (locs : List Loc) (ls : Array Slot), lpX8_line_17 M o0 (fun x8 x9 x10 => ((x1.toInt < 0 ∨ 4 < x1.toInt) → ( Q (-1000001 : Int32))) ∧ ((x1.toInt = 0) → ( wX8_worst M (o0 + 6) 50 (fun r11 => Q r11))) ∧ ((x1.toInt = 1) → ( wX8_uneven M (o0 + 6) 50 (fun r12 => Q r12))) ∧ ((x1.toInt = 2) → ( Q x8)) ∧ ((x1.toInt = 3) → ( Q x9)) ∧ ((x1.toInt = 4) → ( wX8_isClosing M o0 (fun r13 => ((r13 = 0) → ( Q (0 : Int32))) ∧ ((¬ r13 = 0) → ( Q (1 : Int32))))))) fu17 x5 x6 x7 → zH D Y ad kd RL M J A s.heap H locs s → lv_has ls 5 [(0, .ref (ad o0)), (1, .int x1), (2, .int x5), (3, .int x6), (4, .int x7)] → W p l e rmX8_line s m ar below meth c H locs 0 0 QE (F0 m 17 ls []) := by
      intro fu17
      induction fu17 with
      | zero => intro x5 x6 x7 H locs ls hq; exact hq.elim
      | succ fu17 ih17 =>
        intro x5 x6 x7 H locs ls hq hw hl
        unfold lpX8_line_17 at hq
        refine lv_iload hx hb dX8_line_17 (lv_at hl 4 rfl) ?_
        refine lv_aload_n hx hb dX8_line_19 rfl (lv_at hl 0 rfl) ?_
        refine zg8_now hx hb g8 hown hw h_o0 q2 dX8_line_20 ?_
        refine lv_iconst (v := (0 : Int32)) hx hb dX8_line_23 (by decide) ?_
        have hi : vp_in (0 : Int32) 50 := by unfold vp_in; decide
        refine z_iald (n := 50) hx hb hw (zk_8_6 hC h_o0) hi dX8_line_24 ?_
        refine lv_icmp_ge (tgt := 62) hx hb dX8_line_25 (by decide) (fun hc => ?_) (fun hc => ?_)
        · have hq := hq.1 hc
          exact ex17_62 x5 x6 x7 _ _ _ hq hw (lv_sub hl [0, 1, 2, 3] rfl)
        · have hq := hq.2 hc
          refine lv_iload_n hx hb dX8_line_28 rfl (lv_at hl 2 rfl) ?_
          refine lv_aload_n hx hb dX8_line_29 rfl (lv_at hl 0 rfl) ?_
          refine zg8_now hx hb g8 hown hw h_o0 q2 dX8_line_30 ?_
          refine lv_iload hx hb dX8_line_33 (lv_at hl 4 rfl) ?_
          refine z_csi ⟨hx, hb, hml, hown, hts⟩ hw (kX8_nowOf (zk_8_6 hC h_o0) hq) (va_cwS 2 hts gX8_line_X8_nowOf rfl rfl rfl (by decide +kernel) ⟨Nat.le_of_ble_eq_true rfl, Nat.le_of_ble_eq_true rfl⟩) rfl hl.1 rfl (Nat.le_of_ble_eq_true rfl) dX8_line_35 ⟨Nat.zero_le _, Nat.zero_le _⟩ (fun r14 M0 J0 H locs hq hw => ?_)
          obtain ⟨hq, rfl, rfl⟩ := hq
          refine lv_iadd hx hb dX8_line_38 ?_
          refine lv_istore_n (lv' := [(2, .int (x5 + r14)), (0, .ref (ad o0)), (1, .int x1), (3, .int x6), (4, .int x7)]) hx hb dX8_line_39 rfl hl (by decide) rfl (fun ls hl => ?_)
          refine lv_iload_n hx hb dX8_line_40 rfl (lv_at hl 3 rfl) ?_
          refine lv_aload_n hx hb dX8_line_41 rfl (lv_at hl 1 rfl) ?_
          refine zg8_now hx hb g8 hown hw h_o0 q2 dX8_line_42 ?_
          refine lv_iconst (v := (2 : Int32)) hx hb dX8_line_45 (by decide) ?_
          refine lv_iconst (v := (4 : Int32)) hx hb dX8_line_46 (by decide) ?_
          refine lv_iload hx hb dX8_line_47 (lv_at hl 4 rfl) ?_
          refine lv_imul hx hb dX8_line_49 ?_
          refine lv_iadd hx hb dX8_line_50 ?_
          refine lv_iconst (v := (3 : Int32)) hx hb dX8_line_51 (by decide) ?_
          refine lv_iadd hx hb dX8_line_52 ?_
          refine lv_topi (fun x15 e_x15 => ?_)
          have hq := hq x15 e_x15
          obtain ⟨hi, hq⟩ := hq
          refine z_iald (n := 50) hx hb hw (zk_8_6 hC h_o0) hi dX8_line_53 ?_
          refine lv_iadd hx hb dX8_line_54 ?_
          refine lv_istore_n (lv' := [(3, .int (x6 + (M (o0 + 6) x15.toNatClampNeg))), (2, .int (x5 + r14)), (0, .ref (ad o0)), (1, .int x1), (4, .int x7)]) hx hb dX8_line_55 rfl hl (by decide) rfl (fun ls hl => ?_)
          obtain ⟨x16, e_x16⟩ : ∃ y : Int32, y = x7 + (1 : Int32) := ⟨_, rfl⟩
          have hq := hq x16 e_x16
          refine lv_iinc (v := x16) (lv' := [(4, .int x16), (3, .int (x6 + (M (o0 + 6) x15.toNatClampNeg))), (2, .int (x5 + r14)), (0, .ref (ad o0)), (1, .int x1)]) hx hb dX8_line_56 hl (k := 4) rfl (by rw [e_x16]; rfl) (by decide) rfl (fun ls hl => ?_)
          refine lv_goto (tgt := 17) hx hb dX8_line_59 (by decide) ?_
          exact ih17 (x5 + r14) (x6 + (M (o0 + 6) x15.toNatClampNeg)) x16 _ _ _ hq hw (lv_sub hl [3, 4, 2, 1, 0] rfl)
    exact lp17 fu17 (0 : Int32) (0 : Int32) (0 : Int32) _ _ _ hq hw (lv_sub hl [3, 4, 2, 1, 0] rfl)
  · have hq := hq.2 hc
    refine lv_ldc (v := (-1000002 : Int32)) hx hb hown q1 dX8_line_7 ?_
    exact z_iret hQE hx hb hr hlk hw dX8_line_9 ⟨hq, rfl, rfl⟩
set_option maxRecDepth 20000 in
theorem ggX8_stepBy_X8_isLoose : GoodIn wsX8_stepBy wsX8_isLoose := goodIn_r _ [5] (by decide +kernel) (by decide +kernel)
set_option maxRecDepth 20000 in
theorem gX8_stepBy_X8_isLoose : GoodIn wsX8_stepBy (va_wsS RX8 146 yX8_isLoose wsX8_isLoose) := goodIn_app (goodIn_of _ (by decide +kernel)) ggX8_stepBy_X8_isLoose
set_option maxRecDepth 20000 in
theorem ggX8_stepBy_X8_size : GoodIn wsX8_stepBy wsX8_size := goodIn_r _ [8] (by decide +kernel) (by decide +kernel)
set_option maxRecDepth 20000 in
theorem gX8_stepBy_X8_size : GoodIn wsX8_stepBy (va_wsS RX8 153 yX8_size wsX8_size) := goodIn_app (goodIn_of _ (by decide +kernel)) ggX8_stepBy_X8_size
theorem dX8_stepBy_0 : decode cX8_stepBy 0 = .ok (.aload_n 0, 1) := by decide +kernel
theorem dX8_stepBy_1 : decode cX8_stepBy 1 = .ok (.getfield 25, 3) := by decide +kernel
theorem dX8_stepBy_4 : decode cX8_stepBy 4 = .ok (.iconst 2, 1) := by decide +kernel
theorem dX8_stepBy_5 : decode cX8_stepBy 5 = .ok (.iconst 4, 1) := by decide +kernel
theorem dX8_stepBy_6 : decode cX8_stepBy 6 = .ok (.iload_n 1, 1) := by decide +kernel
theorem dX8_stepBy_7 : decode cX8_stepBy 7 = .ok (.imul, 1) := by decide +kernel
theorem dX8_stepBy_8 : decode cX8_stepBy 8 = .ok (.iadd, 1) := by decide +kernel
theorem dX8_stepBy_9 : decode cX8_stepBy 9 = .ok (.iconst 1, 1) := by decide +kernel
theorem dX8_stepBy_10 : decode cX8_stepBy 10 = .ok (.iadd, 1) := by decide +kernel
theorem dX8_stepBy_11 : decode cX8_stepBy 11 = .ok (.iaload, 1) := by decide +kernel
theorem dX8_stepBy_12 : decode cX8_stepBy 12 = .ok (.iconst 2, 1) := by decide +kernel
theorem dX8_stepBy_13 : decode cX8_stepBy 13 = .ok (.iload_n 3, 1) := by decide +kernel
theorem dX8_stepBy_14 : decode cX8_stepBy 14 = .ok (.imul, 1) := by decide +kernel
theorem dX8_stepBy_15 : decode cX8_stepBy 15 = .ok (.iadd, 1) := by decide +kernel
theorem dX8_stepBy_16 : decode cX8_stepBy 16 = .ok (.iload_n 2, 1) := by decide +kernel
theorem dX8_stepBy_17 : decode cX8_stepBy 17 = .ok (.isub, 1) := by decide +kernel
theorem dX8_stepBy_18 : decode cX8_stepBy 18 = .ok (.iload 4, 2) := by decide +kernel
theorem dX8_stepBy_20 : decode cX8_stepBy 20 = .ok (.isub, 1) := by decide +kernel
theorem dX8_stepBy_21 : decode cX8_stepBy 21 = .ok (.istore 6, 2) := by decide +kernel
theorem dX8_stepBy_23 : decode cX8_stepBy 23 = .ok (.aload_n 0, 1) := by decide +kernel
theorem dX8_stepBy_24 : decode cX8_stepBy 24 = .ok (.getfield 25, 3) := by decide +kernel
theorem dX8_stepBy_27 : decode cX8_stepBy 27 = .ok (.iconst 2, 1) := by decide +kernel
theorem dX8_stepBy_28 : decode cX8_stepBy 28 = .ok (.iconst 4, 1) := by decide +kernel
theorem dX8_stepBy_29 : decode cX8_stepBy 29 = .ok (.iload_n 1, 1) := by decide +kernel
theorem dX8_stepBy_30 : decode cX8_stepBy 30 = .ok (.imul, 1) := by decide +kernel
theorem dX8_stepBy_31 : decode cX8_stepBy 31 = .ok (.iadd, 1) := by decide +kernel
theorem dX8_stepBy_32 : decode cX8_stepBy 32 = .ok (.iconst 4, 1) := by decide +kernel
theorem dX8_stepBy_33 : decode cX8_stepBy 33 = .ok (.iadd, 1) := by decide +kernel
theorem dX8_stepBy_34 : decode cX8_stepBy 34 = .ok (.iconst 1, 1) := by decide +kernel
theorem dX8_stepBy_35 : decode cX8_stepBy 35 = .ok (.iadd, 1) := by decide +kernel
theorem dX8_stepBy_36 : decode cX8_stepBy 36 = .ok (.iaload, 1) := by decide +kernel
theorem dX8_stepBy_37 : decode cX8_stepBy 37 = .ok (.iconst 2, 1) := by decide +kernel
theorem dX8_stepBy_38 : decode cX8_stepBy 38 = .ok (.iload 4, 2) := by decide +kernel
theorem dX8_stepBy_40 : decode cX8_stepBy 40 = .ok (.imul, 1) := by decide +kernel
theorem dX8_stepBy_41 : decode cX8_stepBy 41 = .ok (.iadd, 1) := by decide +kernel
theorem dX8_stepBy_42 : decode cX8_stepBy 42 = .ok (.iload_n 3, 1) := by decide +kernel
theorem dX8_stepBy_43 : decode cX8_stepBy 43 = .ok (.isub, 1) := by decide +kernel
theorem dX8_stepBy_44 : decode cX8_stepBy 44 = .ok (.iload 5, 2) := by decide +kernel
theorem dX8_stepBy_46 : decode cX8_stepBy 46 = .ok (.isub, 1) := by decide +kernel
theorem dX8_stepBy_47 : decode cX8_stepBy 47 = .ok (.istore 7, 2) := by decide +kernel
theorem dX8_stepBy_49 : decode cX8_stepBy 49 = .ok (.aload_n 0, 1) := by decide +kernel
theorem dX8_stepBy_50 : decode cX8_stepBy 50 = .ok (.getfield 25, 3) := by decide +kernel
theorem dX8_stepBy_53 : decode cX8_stepBy 53 = .ok (.iload_n 1, 1) := by decide +kernel
theorem dX8_stepBy_54 : decode cX8_stepBy 54 = .ok (.invokestatic 146, 3) := by decide +kernel
theorem dX8_stepBy_57 : decode cX8_stepBy 57 = .ok (.ifCond .eq 7, 3) := by decide +kernel
theorem dX8_stepBy_60 : decode cX8_stepBy 60 = .ok (.iconst 0, 1) := by decide +kernel
theorem dX8_stepBy_61 : decode cX8_stepBy 61 = .ok (.goto 11, 3) := by decide +kernel
theorem dX8_stepBy_64 : decode cX8_stepBy 64 = .ok (.iload 6, 2) := by decide +kernel
theorem dX8_stepBy_66 : decode cX8_stepBy 66 = .ok (.iload 7, 2) := by decide +kernel
theorem dX8_stepBy_68 : decode cX8_stepBy 68 = .ok (.isub, 1) := by decide +kernel
theorem dX8_stepBy_69 : decode cX8_stepBy 69 = .ok (.invokestatic 153, 3) := by decide +kernel
theorem dX8_stepBy_72 : decode cX8_stepBy 72 = .ok (.ireturn, 1) := by decide +kernel
def rmX8_stepBy : Room := { frames := 1, cells := 0, slots := 0, locals := 21 }
def wX8_stepBy (M : zM) (o0 : Nat) (x1 : Int32) (x2 : Int32) (x3 : Int32) (x4 : Int32) (x5 : Int32) (Q : Int32 → Prop) : Prop :=
    ∀ x8 : Int32, x8 = (((2 : Int32) + ((4 : Int32) * x1)) + (1 : Int32)) →
    vp_in x8 50 ∧
    ∀ x9 : Int32, x9 = ((M (o0 + 6) x8.toNatClampNeg) + ((2 : Int32) * x3)) →
    ∀ x10 : Int32, x10 = (((2 : Int32) + ((4 : Int32) * x1)) + (4 : Int32)) →
    vp_in (x10 + (1 : Int32)) 50 ∧
    ∀ x11 : Int32, x11 = ((M (o0 + 6) (x10 + (1 : Int32)).toNatClampNeg) + ((2 : Int32) * x4)) →
    wX8_isLoose M (o0 + 6) 50 x1 (fun r12 =>
    ((r12 = 0) → (
    wX8_size M (((x9 - x2) - x4) - ((x11 - x3) - x5)) (fun r13 =>
    Q r13))) ∧
    ((¬ r12 = 0) → (
    Q (0 : Int32))))
set_option maxHeartbeats 4000000 in
set_option maxRecDepth 100000 in
theorem kX8_stepBy {l : Launch} {D : va_G} {Y : zY} {ad kd : Nat → Nat} {RL : List Nat} {M : zM} {J : zL} {o0 : Nat} {x1 : Int32} {x2 : Int32} {x3 : Int32} {x4 : Int32} {x5 : Int32} (h_o0 : kd o0 = 8) {Q : Int32 → Prop} (hq : wX8_stepBy M o0 x1 x2 x3 x4 x5 Q) : zCi l yX8_stepBy wsX8_stepBy rmX8_stepBy [.ref (ad o0), .int x1, .int x2, .int x3, .int x4, .int x5] D Y ad kd RL M J (fun r M' J' => Q r ∧ M = M' ∧ J = J') := by
  refine z_meti (cc := cX8_stepBy) (maxL := 8) (ret := (some .int)) (by decide) rfl (Nat.le_of_ble_eq_true rfl) ?_
  intro p e s m below meth c ls A ar QE hQE hx hb hr hml hown hts hlk hw hl
  have hown : s.vm.findClass RX8 = some m.cls := hown
  have hl : lv_has ls 8 [(0, .ref (ad o0)), (1, .int x1), (2, .int x2), (3, .int x3), (4, .int x4), (5, .int x5)] := hl
  have hC := hw.2.2.2.2.2.1
  have g8 : ∀ w ∈ wsX80, w.before ar s = true := (fun w h => hts w (List.mem_cons_of_mem _ (List.mem_append_right _ h)))
  have q1 := hts _ (List.mem_of_getElem? (i := 1) rfl)
  unfold wX8_stepBy at hq
  refine lv_aload_n hx hb dX8_stepBy_0 rfl (lv_at hl 0 rfl) ?_
  refine zg8_now hx hb g8 hown hw h_o0 q1 dX8_stepBy_1 ?_
  refine lv_iconst (v := (2 : Int32)) hx hb dX8_stepBy_4 (by decide) ?_
  refine lv_iconst (v := (4 : Int32)) hx hb dX8_stepBy_5 (by decide) ?_
  refine lv_iload_n hx hb dX8_stepBy_6 rfl (lv_at hl 1 rfl) ?_
  refine lv_imul hx hb dX8_stepBy_7 ?_
  refine lv_iadd hx hb dX8_stepBy_8 ?_
  refine lv_iconst (v := (1 : Int32)) hx hb dX8_stepBy_9 (by decide) ?_
  refine lv_iadd hx hb dX8_stepBy_10 ?_
  refine lv_topi (fun x8 e_x8 => ?_)
  have hq := hq x8 e_x8
  obtain ⟨hi, hq⟩ := hq
  refine z_iald (n := 50) hx hb hw (zk_8_6 hC h_o0) hi dX8_stepBy_11 ?_
  refine lv_iconst (v := (2 : Int32)) hx hb dX8_stepBy_12 (by decide) ?_
  refine lv_iload_n hx hb dX8_stepBy_13 rfl (lv_at hl 3 rfl) ?_
  refine lv_imul hx hb dX8_stepBy_14 ?_
  refine lv_iadd hx hb dX8_stepBy_15 ?_
  refine lv_topi (fun x9 e_x9 => ?_)
  have hq := hq x9 e_x9
  refine lv_iload_n hx hb dX8_stepBy_16 rfl (lv_at hl 2 rfl) ?_
  refine lv_isub hx hb dX8_stepBy_17 ?_
  refine lv_iload hx hb dX8_stepBy_18 (lv_at hl 4 rfl) ?_
  refine lv_isub hx hb dX8_stepBy_20 ?_
  refine lv_istore (lv' := [(6, .int ((x9 - x2) - x4)), (0, .ref (ad o0)), (1, .int x1), (2, .int x2), (3, .int x3), (4, .int x4), (5, .int x5)]) hx hb dX8_stepBy_21 hl (by decide) rfl (fun ls hl => ?_)
  refine lv_aload_n hx hb dX8_stepBy_23 rfl (lv_at hl 1 rfl) ?_
  refine zg8_now hx hb g8 hown hw h_o0 q1 dX8_stepBy_24 ?_
  refine lv_iconst (v := (2 : Int32)) hx hb dX8_stepBy_27 (by decide) ?_
  refine lv_iconst (v := (4 : Int32)) hx hb dX8_stepBy_28 (by decide) ?_
  refine lv_iload_n hx hb dX8_stepBy_29 rfl (lv_at hl 2 rfl) ?_
  refine lv_imul hx hb dX8_stepBy_30 ?_
  refine lv_iadd hx hb dX8_stepBy_31 ?_
  refine lv_iconst (v := (4 : Int32)) hx hb dX8_stepBy_32 (by decide) ?_
  refine lv_iadd hx hb dX8_stepBy_33 ?_
  refine lv_topi (fun x10 e_x10 => ?_)
  have hq := hq x10 e_x10
  refine lv_iconst (v := (1 : Int32)) hx hb dX8_stepBy_34 (by decide) ?_
  refine lv_iadd hx hb dX8_stepBy_35 ?_
  obtain ⟨hi, hq⟩ := hq
  refine z_iald (n := 50) hx hb hw (zk_8_6 hC h_o0) hi dX8_stepBy_36 ?_
  refine lv_iconst (v := (2 : Int32)) hx hb dX8_stepBy_37 (by decide) ?_
  refine lv_iload hx hb dX8_stepBy_38 (lv_at hl 5 rfl) ?_
  refine lv_imul hx hb dX8_stepBy_40 ?_
  refine lv_iadd hx hb dX8_stepBy_41 ?_
  refine lv_topi (fun x11 e_x11 => ?_)
  have hq := hq x11 e_x11
  refine lv_iload_n hx hb dX8_stepBy_42 rfl (lv_at hl 4 rfl) ?_
  refine lv_isub hx hb dX8_stepBy_43 ?_
  refine lv_iload hx hb dX8_stepBy_44 (lv_at hl 6 rfl) ?_
  refine lv_isub hx hb dX8_stepBy_46 ?_
  refine lv_istore (lv' := [(7, .int ((x11 - x3) - x5)), (6, .int ((x9 - x2) - x4)), (0, .ref (ad o0)), (1, .int x1), (2, .int x2), (3, .int x3), (4, .int x4), (5, .int x5)]) hx hb dX8_stepBy_47 hl (by decide) rfl (fun ls hl => ?_)
  refine lv_aload_n hx hb dX8_stepBy_49 rfl (lv_at hl 2 rfl) ?_
  refine zg8_now hx hb g8 hown hw h_o0 q1 dX8_stepBy_50 ?_
  refine lv_iload_n hx hb dX8_stepBy_53 rfl (lv_at hl 3 rfl) ?_
  refine z_csi ⟨hx, hb, hml, hown, hts⟩ hw (kX8_isLoose (zk_8_6 hC h_o0) hq) (va_cwS 2 hts gX8_stepBy_X8_isLoose rfl rfl rfl (by decide +kernel) ⟨Nat.le_of_ble_eq_true rfl, Nat.le_of_ble_eq_true rfl⟩) rfl hl.1 rfl (Nat.le_of_ble_eq_true rfl) dX8_stepBy_54 ⟨Nat.zero_le _, Nat.zero_le _⟩ (fun r12 M0 J0 H locs hq hw => ?_)
  obtain ⟨hq, rfl, rfl⟩ := hq
  refine lv_if_eq (tgt := 64) hx hb dX8_stepBy_57 (by decide) (fun hc => ?_) (fun hc => ?_)
  · have hq := hq.1 hc
    refine lv_iload hx hb dX8_stepBy_64 (lv_at hl 1 rfl) ?_
    refine lv_iload hx hb dX8_stepBy_66 (lv_at hl 0 rfl) ?_
    refine lv_isub hx hb dX8_stepBy_68 ?_
    refine z_csi ⟨hx, hb, hml, hown, hts⟩ hw (kX8_size  hq) (va_cwS 1 hts gX8_stepBy_X8_size rfl rfl rfl (by decide +kernel) ⟨Nat.le_of_ble_eq_true rfl, Nat.le_of_ble_eq_true rfl⟩) rfl hl.1 rfl (Nat.le_of_ble_eq_true rfl) dX8_stepBy_69 ⟨Nat.zero_le _, Nat.zero_le _⟩ (fun r13 M0 J0 H locs hq hw => ?_)
    obtain ⟨hq, rfl, rfl⟩ := hq
    exact z_iret hQE hx hb hr hlk hw dX8_stepBy_72 ⟨hq, rfl, rfl⟩
  · have hq := hq.2 hc
    refine lv_iconst (v := (0 : Int32)) hx hb dX8_stepBy_60 (by decide) ?_
    refine lv_goto (tgt := 72) hx hb dX8_stepBy_61 (by decide) ?_
    exact z_iret hQE hx hb hr hlk hw dX8_stepBy_72 ⟨hq, rfl, rfl⟩
set_option maxRecDepth 20000 in
theorem ggX8_reachAt_X8_in : GoodIn wsX8_reachAt wsX8_in := goodIn_r _ [5] (by decide +kernel) (by decide +kernel)
set_option maxRecDepth 20000 in
theorem gX8_reachAt_X8_in : GoodIn wsX8_reachAt (va_wsS RX8 59 yX8_in wsX8_in) := goodIn_app (goodIn_of _ (by decide +kernel)) ggX8_reachAt_X8_in
set_option maxRecDepth 20000 in
theorem ggX8_reachAt_X8_reach : GoodIn wsX8_reachAt wsX8_reach := goodIn_r _ [8] (by decide +kernel) (by decide +kernel)
set_option maxRecDepth 20000 in
theorem gX8_reachAt_X8_reach : GoodIn wsX8_reachAt (va_wsS RX8 166 yX8_reach wsX8_reach) := goodIn_app (goodIn_of _ (by decide +kernel)) ggX8_reachAt_X8_reach
theorem dX8_reachAt_0 : decode cX8_reachAt 0 = .ok (.iload_n 1, 1) := by decide +kernel
theorem dX8_reachAt_1 : decode cX8_reachAt 1 = .ok (.iconst 0, 1) := by decide +kernel
theorem dX8_reachAt_2 : decode cX8_reachAt 2 = .ok (.aload_n 0, 1) := by decide +kernel
theorem dX8_reachAt_3 : decode cX8_reachAt 3 = .ok (.getfield 25, 3) := by decide +kernel
theorem dX8_reachAt_6 : decode cX8_reachAt 6 = .ok (.iconst 0, 1) := by decide +kernel
theorem dX8_reachAt_7 : decode cX8_reachAt 7 = .ok (.iaload, 1) := by decide +kernel
theorem dX8_reachAt_8 : decode cX8_reachAt 8 = .ok (.iconst 1, 1) := by decide +kernel
theorem dX8_reachAt_9 : decode cX8_reachAt 9 = .ok (.isub, 1) := by decide +kernel
theorem dX8_reachAt_10 : decode cX8_reachAt 10 = .ok (.invokestatic 59, 3) := by decide +kernel
theorem dX8_reachAt_13 : decode cX8_reachAt 13 = .ok (.ifCond .eq 14, 3) := by decide +kernel
theorem dX8_reachAt_16 : decode cX8_reachAt 16 = .ok (.aload_n 0, 1) := by decide +kernel
theorem dX8_reachAt_17 : decode cX8_reachAt 17 = .ok (.getfield 25, 3) := by decide +kernel
theorem dX8_reachAt_20 : decode cX8_reachAt 20 = .ok (.iload_n 1, 1) := by decide +kernel
theorem dX8_reachAt_21 : decode cX8_reachAt 21 = .ok (.invokestatic 166, 3) := by decide +kernel
theorem dX8_reachAt_24 : decode cX8_reachAt 24 = .ok (.goto 4, 3) := by decide +kernel
theorem dX8_reachAt_27 : decode cX8_reachAt 27 = .ok (.iconst 0, 1) := by decide +kernel
theorem dX8_reachAt_28 : decode cX8_reachAt 28 = .ok (.ireturn, 1) := by decide +kernel
def rmX8_reachAt : Room := { frames := 1, cells := 0, slots := 0, locals := 22 }
def wX8_reachAt (M : zM) (o0 : Nat) (x1 : Int32) (Q : Int32 → Prop) : Prop :=
    ∀ x4 : Int32, x4 = ((M (o0 + 6) (0 : Int32).toNatClampNeg) - (1 : Int32)) →
    wX8_in M x1 (0 : Int32) x4 (fun r5 =>
    ((r5 = 0) → (
    Q (0 : Int32))) ∧
    ((¬ r5 = 0) → (
    wX8_reach M (o0 + 6) 50 x1 (fun r6 =>
    Q r6))))
set_option maxHeartbeats 4000000 in
set_option maxRecDepth 100000 in
theorem kX8_reachAt {l : Launch} {D : va_G} {Y : zY} {ad kd : Nat → Nat} {RL : List Nat} {M : zM} {J : zL} {o0 : Nat} {x1 : Int32} (h_o0 : kd o0 = 8) {Q : Int32 → Prop} (hq : wX8_reachAt M o0 x1 Q) : zCi l yX8_reachAt wsX8_reachAt rmX8_reachAt [.ref (ad o0), .int x1] D Y ad kd RL M J (fun r M' J' => Q r ∧ M = M' ∧ J = J') := by
  refine z_meti (cc := cX8_reachAt) (maxL := 2) (ret := (some .int)) (by decide) rfl (Nat.le_of_ble_eq_true rfl) ?_
  intro p e s m below meth c ls A ar QE hQE hx hb hr hml hown hts hlk hw hl
  have hown : s.vm.findClass RX8 = some m.cls := hown
  have hl : lv_has ls 2 [(0, .ref (ad o0)), (1, .int x1)] := hl
  have hC := hw.2.2.2.2.2.1
  have g8 : ∀ w ∈ wsX80, w.before ar s = true := (fun w h => hts w (List.mem_cons_of_mem _ (List.mem_append_right _ h)))
  have q1 := hts _ (List.mem_of_getElem? (i := 1) rfl)
  unfold wX8_reachAt at hq
  refine lv_iload_n hx hb dX8_reachAt_0 rfl (lv_at hl 1 rfl) ?_
  refine lv_iconst (v := (0 : Int32)) hx hb dX8_reachAt_1 (by decide) ?_
  refine lv_aload_n hx hb dX8_reachAt_2 rfl (lv_at hl 0 rfl) ?_
  refine zg8_now hx hb g8 hown hw h_o0 q1 dX8_reachAt_3 ?_
  refine lv_iconst (v := (0 : Int32)) hx hb dX8_reachAt_6 (by decide) ?_
  have hi : vp_in (0 : Int32) 50 := by unfold vp_in; decide
  refine z_iald (n := 50) hx hb hw (zk_8_6 hC h_o0) hi dX8_reachAt_7 ?_
  refine lv_iconst (v := (1 : Int32)) hx hb dX8_reachAt_8 (by decide) ?_
  refine lv_isub hx hb dX8_reachAt_9 ?_
  refine lv_topi (fun x4 e_x4 => ?_)
  have hq := hq x4 e_x4
  refine z_csi ⟨hx, hb, hml, hown, hts⟩ hw (kX8_in  hq) (va_cwS 3 hts gX8_reachAt_X8_in rfl rfl rfl (by decide +kernel) ⟨Nat.le_of_ble_eq_true rfl, Nat.le_of_ble_eq_true rfl⟩) rfl hl.1 rfl (Nat.le_of_ble_eq_true rfl) dX8_reachAt_10 ⟨Nat.zero_le _, Nat.zero_le _⟩ (fun r5 M0 J0 H locs hq hw => ?_)
  obtain ⟨hq, rfl, rfl⟩ := hq
  refine lv_if_eq (tgt := 27) hx hb dX8_reachAt_13 (by decide) (fun hc => ?_) (fun hc => ?_)
  · have hq := hq.1 hc
    refine lv_iconst (v := (0 : Int32)) hx hb dX8_reachAt_27 (by decide) ?_
    exact z_iret hQE hx hb hr hlk hw dX8_reachAt_28 ⟨hq, rfl, rfl⟩
  · have hq := hq.2 hc
    refine lv_aload_n hx hb dX8_reachAt_16 rfl (lv_at hl 0 rfl) ?_
    refine zg8_now hx hb g8 hown hw h_o0 q1 dX8_reachAt_17 ?_
    refine lv_iload_n hx hb dX8_reachAt_20 rfl (lv_at hl 1 rfl) ?_
    refine z_csi ⟨hx, hb, hml, hown, hts⟩ hw (kX8_reach (zk_8_6 hC h_o0) hq) (va_cwS 2 hts gX8_reachAt_X8_reach rfl rfl rfl (by decide +kernel) ⟨Nat.le_of_ble_eq_true rfl, Nat.le_of_ble_eq_true rfl⟩) rfl hl.1 rfl (Nat.le_of_ble_eq_true rfl) dX8_reachAt_21 ⟨Nat.zero_le _, Nat.zero_le _⟩ (fun r6 M0 J0 H locs hq hw => ?_)
    obtain ⟨hq, rfl, rfl⟩ := hq
    refine lv_goto (tgt := 28) hx hb dX8_reachAt_24 (by decide) ?_
    exact z_iret hQE hx hb hr hlk hw dX8_reachAt_28 ⟨hq, rfl, rfl⟩
theorem dX8_place_0 : decode cX8_place 0 = .ok (.sipush 343, 3) := by decide +kernel
theorem dX8_place_3 : decode cX8_place 3 = .ok (.iload_n 0, 1) := by decide +kernel
theorem dX8_place_4 : decode cX8_place 4 = .ok (.imul, 1) := by decide +kernel
theorem dX8_place_5 : decode cX8_place 5 = .ok (.bipush 49, 2) := by decide +kernel
theorem dX8_place_7 : decode cX8_place 7 = .ok (.iload_n 1, 1) := by decide +kernel
theorem dX8_place_8 : decode cX8_place 8 = .ok (.iconst 3, 1) := by decide +kernel
theorem dX8_place_9 : decode cX8_place 9 = .ok (.iadd, 1) := by decide +kernel
theorem dX8_place_10 : decode cX8_place 10 = .ok (.imul, 1) := by decide +kernel
theorem dX8_place_11 : decode cX8_place 11 = .ok (.iadd, 1) := by decide +kernel
theorem dX8_place_12 : decode cX8_place 12 = .ok (.bipush 7, 2) := by decide +kernel
theorem dX8_place_14 : decode cX8_place 14 = .ok (.iload_n 2, 1) := by decide +kernel
theorem dX8_place_15 : decode cX8_place 15 = .ok (.iconst 3, 1) := by decide +kernel
theorem dX8_place_16 : decode cX8_place 16 = .ok (.iadd, 1) := by decide +kernel
theorem dX8_place_17 : decode cX8_place 17 = .ok (.imul, 1) := by decide +kernel
theorem dX8_place_18 : decode cX8_place 18 = .ok (.iadd, 1) := by decide +kernel
theorem dX8_place_19 : decode cX8_place 19 = .ok (.iload_n 3, 1) := by decide +kernel
theorem dX8_place_20 : decode cX8_place 20 = .ok (.iadd, 1) := by decide +kernel
theorem dX8_place_21 : decode cX8_place 21 = .ok (.iconst 3, 1) := by decide +kernel
theorem dX8_place_22 : decode cX8_place 22 = .ok (.iadd, 1) := by decide +kernel
theorem dX8_place_23 : decode cX8_place 23 = .ok (.ireturn, 1) := by decide +kernel
def rmX8_place : Room := { frames := 0, cells := 0, slots := 0, locals := 0 }
def wX8_place (M : zM) (x0 : Int32) (x1 : Int32) (x2 : Int32) (x3 : Int32) (Q : Int32 → Prop) : Prop :=
    ∀ x6 : Int32, x6 = (((343 : Int32) * x0) + ((49 : Int32) * (x1 + (3 : Int32)))) →
    ∀ x7 : Int32, x7 = ((x6 + ((7 : Int32) * (x2 + (3 : Int32)))) + x3) →
    Q (x7 + (3 : Int32))
set_option maxHeartbeats 4000000 in
set_option maxRecDepth 100000 in
theorem kX8_place {l : Launch} {D : va_G} {Y : zY} {ad kd : Nat → Nat} {RL : List Nat} {M : zM} {J : zL} {x0 : Int32} {x1 : Int32} {x2 : Int32} {x3 : Int32}  {Q : Int32 → Prop} (hq : wX8_place M x0 x1 x2 x3 Q) : zCi l yX8_place wsX8_place rmX8_place [.int x0, .int x1, .int x2, .int x3] D Y ad kd RL M J (fun r M' J' => Q r ∧ M = M' ∧ J = J') := by
  refine z_meti (cc := cX8_place) (maxL := 4) (ret := (some .int)) (by decide) rfl (Nat.le_of_ble_eq_true rfl) ?_
  intro p e s m below meth c ls A ar QE hQE hx hb hr hml hown hts hlk hw hl
  have hown : s.vm.findClass RX8 = some m.cls := hown
  have hl : lv_has ls 4 [(0, .int x0), (1, .int x1), (2, .int x2), (3, .int x3)] := hl
  have hC := hw.2.2.2.2.2.1
  unfold wX8_place at hq
  refine lv_sipush (v := (343 : Int32)) hx hb dX8_place_0 (by decide) ?_
  refine lv_iload_n hx hb dX8_place_3 rfl (lv_at hl 0 rfl) ?_
  refine lv_imul hx hb dX8_place_4 ?_
  refine lv_bipush (v := (49 : Int32)) hx hb dX8_place_5 (by decide) ?_
  refine lv_iload_n hx hb dX8_place_7 rfl (lv_at hl 1 rfl) ?_
  refine lv_iconst (v := (3 : Int32)) hx hb dX8_place_8 (by decide) ?_
  refine lv_iadd hx hb dX8_place_9 ?_
  refine lv_imul hx hb dX8_place_10 ?_
  refine lv_iadd hx hb dX8_place_11 ?_
  refine lv_topi (fun x6 e_x6 => ?_)
  have hq := hq x6 e_x6
  refine lv_bipush (v := (7 : Int32)) hx hb dX8_place_12 (by decide) ?_
  refine lv_iload_n hx hb dX8_place_14 rfl (lv_at hl 2 rfl) ?_
  refine lv_iconst (v := (3 : Int32)) hx hb dX8_place_15 (by decide) ?_
  refine lv_iadd hx hb dX8_place_16 ?_
  refine lv_imul hx hb dX8_place_17 ?_
  refine lv_iadd hx hb dX8_place_18 ?_
  refine lv_iload_n hx hb dX8_place_19 rfl (lv_at hl 3 rfl) ?_
  refine lv_iadd hx hb dX8_place_20 ?_
  refine lv_topi (fun x7 e_x7 => ?_)
  have hq := hq x7 e_x7
  refine lv_iconst (v := (3 : Int32)) hx hb dX8_place_21 (by decide) ?_
  refine lv_iadd hx hb dX8_place_22 ?_
  exact z_iret hQE hx hb hr hlk hw dX8_place_23 ⟨hq, rfl, rfl⟩
set_option maxRecDepth 20000 in
theorem ggX8_costBy_X8_stepBy : GoodIn wsX8_costBy wsX8_stepBy := goodIn_r _ [7, 8, 9, 10, 6, 11, 12, 13, 14, 18, 19, 20, 21, 22, 23, 24, 25, 26, 27, 28, 29, 30, 31, 32, 33, 34, 35, 36, 37, 38, 39, 40, 41, 42, 43] (by decide +kernel) (by decide +kernel)
set_option maxRecDepth 20000 in
theorem gX8_costBy_X8_stepBy : GoodIn wsX8_costBy (wsV RX8 203 RX8 yX8_stepBy wsX8_stepBy) := goodIn_app (goodIn_of _ (by decide +kernel)) ggX8_costBy_X8_stepBy
set_option maxRecDepth 20000 in
theorem ggX8_costBy_X8_place : GoodIn wsX8_costBy wsX8_place := goodIn_r _ [17] (by decide +kernel) (by decide +kernel)
set_option maxRecDepth 20000 in
theorem gX8_costBy_X8_place : GoodIn wsX8_costBy (va_wsS RX8 207 yX8_place wsX8_place) := goodIn_app (goodIn_of _ (by decide +kernel)) ggX8_costBy_X8_place
set_option maxRecDepth 20000 in
theorem ggX8_costBy_X8_size : GoodIn wsX8_costBy wsX8_size := goodIn_r _ [14] (by decide +kernel) (by decide +kernel)
set_option maxRecDepth 20000 in
theorem gX8_costBy_X8_size : GoodIn wsX8_costBy (va_wsS RX8 153 yX8_size wsX8_size) := goodIn_app (goodIn_of _ (by decide +kernel)) ggX8_costBy_X8_size
theorem dX8_costBy_0 : decode cX8_costBy 0 = .ok (.aload_n 0, 1) := by decide +kernel
theorem dX8_costBy_1 : decode cX8_costBy 1 = .ok (.iload_n 1, 1) := by decide +kernel
theorem dX8_costBy_2 : decode cX8_costBy 2 = .ok (.iload_n 2, 1) := by decide +kernel
theorem dX8_costBy_3 : decode cX8_costBy 3 = .ok (.iload_n 3, 1) := by decide +kernel
theorem dX8_costBy_4 : decode cX8_costBy 4 = .ok (.iload 4, 2) := by decide +kernel
theorem dX8_costBy_6 : decode cX8_costBy 6 = .ok (.iload 5, 2) := by decide +kernel
theorem dX8_costBy_8 : decode cX8_costBy 8 = .ok (.invokevirtual 203, 3) := by decide +kernel
theorem dX8_costBy_11 : decode cX8_costBy 11 = .ok (.istore 7, 2) := by decide +kernel
theorem dX8_costBy_13 : decode cX8_costBy 13 = .ok (.iload 7, 2) := by decide +kernel
theorem dX8_costBy_15 : decode cX8_costBy 15 = .ok (.iload 6, 2) := by decide +kernel
theorem dX8_costBy_17 : decode cX8_costBy 17 = .ok (.if_icmp .le 8, 3) := by decide +kernel
theorem dX8_costBy_20 : decode cX8_costBy 20 = .ok (.ldc 184, 2) := by decide +kernel
theorem dX8_costBy_22 : decode cX8_costBy 22 = .ok (.goto 19, 3) := by decide +kernel
theorem dX8_costBy_25 : decode cX8_costBy 25 = .ok (.aload_n 0, 1) := by decide +kernel
theorem dX8_costBy_26 : decode cX8_costBy 26 = .ok (.getfield 44, 3) := by decide +kernel
theorem dX8_costBy_29 : decode cX8_costBy 29 = .ok (.iload_n 1, 1) := by decide +kernel
theorem dX8_costBy_30 : decode cX8_costBy 30 = .ok (.iconst 1, 1) := by decide +kernel
theorem dX8_costBy_31 : decode cX8_costBy 31 = .ok (.iadd, 1) := by decide +kernel
theorem dX8_costBy_32 : decode cX8_costBy 32 = .ok (.iload_n 3, 1) := by decide +kernel
theorem dX8_costBy_33 : decode cX8_costBy 33 = .ok (.iload 4, 2) := by decide +kernel
theorem dX8_costBy_35 : decode cX8_costBy 35 = .ok (.iload 5, 2) := by decide +kernel
theorem dX8_costBy_37 : decode cX8_costBy 37 = .ok (.invokestatic 207, 3) := by decide +kernel
theorem dX8_costBy_40 : decode cX8_costBy 40 = .ok (.iaload, 1) := by decide +kernel
theorem dX8_costBy_41 : decode cX8_costBy 41 = .ok (.istore 8, 2) := by decide +kernel
theorem dX8_costBy_43 : decode cX8_costBy 43 = .ok (.iload 8, 2) := by decide +kernel
theorem dX8_costBy_45 : decode cX8_costBy 45 = .ok (.ldc 184, 2) := by decide +kernel
theorem dX8_costBy_47 : decode cX8_costBy 47 = .ok (.if_icmp .ne 8, 3) := by decide +kernel
theorem dX8_costBy_50 : decode cX8_costBy 50 = .ok (.ldc 184, 2) := by decide +kernel
theorem dX8_costBy_52 : decode cX8_costBy 52 = .ok (.goto 18, 3) := by decide +kernel
theorem dX8_costBy_55 : decode cX8_costBy 55 = .ok (.sipush 1000, 3) := by decide +kernel
theorem dX8_costBy_58 : decode cX8_costBy 58 = .ok (.iload 7, 2) := by decide +kernel
theorem dX8_costBy_60 : decode cX8_costBy 60 = .ok (.imul, 1) := by decide +kernel
theorem dX8_costBy_61 : decode cX8_costBy 61 = .ok (.iload 5, 2) := by decide +kernel
theorem dX8_costBy_63 : decode cX8_costBy 63 = .ok (.invokestatic 153, 3) := by decide +kernel
theorem dX8_costBy_66 : decode cX8_costBy 66 = .ok (.iadd, 1) := by decide +kernel
theorem dX8_costBy_67 : decode cX8_costBy 67 = .ok (.iload 8, 2) := by decide +kernel
theorem dX8_costBy_69 : decode cX8_costBy 69 = .ok (.iadd, 1) := by decide +kernel
theorem dX8_costBy_70 : decode cX8_costBy 70 = .ok (.ireturn, 1) := by decide +kernel
def rmX8_costBy : Room := { frames := 2, cells := 0, slots := 0, locals := 48 }
def jnX8_costBy_41 (M : zM) (x5 : Int32) (r9 : Int32) (Q : Int32 → Prop) (x11 : Int32) : Prop :=
    ((¬ x11 = (1000000000 : Int32)) → (
    wX8_size M x5 (fun r12 =>
    Q ((((1000 : Int32) * r9) + r12) + x11)))) ∧
    ((x11 = (1000000000 : Int32)) → (
    Q (1000000000 : Int32)))
def wX8_costBy (M : zM) (o0 : Nat) (x1 : Int32) (x2 : Int32) (x3 : Int32) (x4 : Int32) (x5 : Int32) (x6 : Int32) (Q : Int32 → Prop) : Prop :=
    wX8_stepBy M o0 x1 x2 x3 x4 x5 (fun r9 =>
    ((r9 ≤ x6) → (
    wX8_place M (x1 + (1 : Int32)) x3 x4 x5 (fun r13 =>
    vp_in r13 4116 ∧
    jnX8_costBy_41 M x5 r9 Q (M (o0 + 12) r13.toNatClampNeg)))) ∧
    ((¬ r9 ≤ x6) → (
    jnX8_costBy_41 M x5 r9 Q (1000000000 : Int32))))
set_option maxHeartbeats 4000000 in
set_option maxRecDepth 100000 in
theorem kX8_costBy {l : Launch} {D : va_G} {Y : zY} {ad kd : Nat → Nat} {RL : List Nat} {M : zM} {J : zL} {o0 : Nat} {x1 : Int32} {x2 : Int32} {x3 : Int32} {x4 : Int32} {x5 : Int32} {x6 : Int32} (h_o0 : kd o0 = 8) {Q : Int32 → Prop} (hq : wX8_costBy M o0 x1 x2 x3 x4 x5 x6 Q) : zCi l yX8_costBy wsX8_costBy rmX8_costBy [.ref (ad o0), .int x1, .int x2, .int x3, .int x4, .int x5, .int x6] D Y ad kd RL M J (fun r M' J' => Q r ∧ M = M' ∧ J = J') := by
  refine z_meti (cc := cX8_costBy) (maxL := 9) (ret := (some .int)) (by decide) rfl (Nat.le_of_ble_eq_true rfl) ?_
  intro p e s m below meth c ls A ar QE hQE hx hb hr hml hown hts hlk hw hl
  have hown : s.vm.findClass RX8 = some m.cls := hown
  have hl : lv_has ls 9 [(0, .ref (ad o0)), (1, .int x1), (2, .int x2), (3, .int x3), (4, .int x4), (5, .int x5), (6, .int x6)] := hl
  have hC := hw.2.2.2.2.2.1
  have g8 : ∀ w ∈ wsX80, w.before ar s = true := (fun w h => hts w (List.mem_cons_of_mem _ (List.mem_append_right _ h)))
  have q1 := hts _ (List.mem_of_getElem? (i := 1) rfl)
  have q2 := hts _ (List.mem_of_getElem? (i := 2) rfl)
  unfold wX8_costBy at hq
  refine lv_aload_n hx hb dX8_costBy_0 rfl (lv_at hl 0 rfl) ?_
  refine lv_iload_n hx hb dX8_costBy_1 rfl (lv_at hl 1 rfl) ?_
  refine lv_iload_n hx hb dX8_costBy_2 rfl (lv_at hl 2 rfl) ?_
  refine lv_iload_n hx hb dX8_costBy_3 rfl (lv_at hl 3 rfl) ?_
  refine lv_iload hx hb dX8_costBy_4 (lv_at hl 4 rfl) ?_
  refine lv_iload hx hb dX8_costBy_6 (lv_at hl 5 rfl) ?_
  refine z_cvi ⟨hx, hb, hml, hown, hts⟩ hw h_o0 (kX8_stepBy h_o0 hq) (by decide) rfl (cwV 5 hts gX8_costBy_X8_stepBy rfl rfl rfl (by decide +kernel) ⟨Nat.le_of_ble_eq_true rfl, Nat.le_of_ble_eq_true rfl⟩) rfl hl.1 rfl (Nat.le_of_ble_eq_true rfl) dX8_costBy_8 ⟨Nat.zero_le _, Nat.zero_le _⟩ (fun r9 M0 J0 H locs hq hw => ?_)
  obtain ⟨hq, rfl, rfl⟩ := hq
  refine lv_istore (lv' := [(7, .int r9), (0, .ref (ad o0)), (1, .int x1), (2, .int x2), (3, .int x3), (4, .int x4), (5, .int x5), (6, .int x6)]) hx hb dX8_costBy_11 hl (by decide) rfl (fun ls hl => ?_)
  refine lv_iload hx hb dX8_costBy_13 (lv_at hl 0 rfl) ?_
  refine lv_iload hx hb dX8_costBy_15 (lv_at hl 7 rfl) ?_
  have jn41 : ∀ (x11 : Int32) (H : Heap) (locs : List Loc) (ls : Array Slot), jnX8_costBy_41 M x5 r9 Q x11 → zH D Y ad kd RL M J A s.heap H locs s → lv_has ls 9 [(5, .int x5), (7, .int r9)] → W p l e rmX8_costBy s m ar below meth c H locs 0 0 QE (F0 m 41 ls [.int x11]) := by
    intro x11 H locs ls hq hw hl
    unfold jnX8_costBy_41 at hq
    refine lv_istore (lv' := [(8, .int x11), (5, .int x5), (7, .int r9)]) hx hb dX8_costBy_41 hl (by decide) rfl (fun ls hl => ?_)
    refine lv_iload hx hb dX8_costBy_43 (lv_at hl 0 rfl) ?_
    refine lv_ldc (v := (1000000000 : Int32)) hx hb hown q1 dX8_costBy_45 ?_
    refine lv_icmp_ne (tgt := 55) hx hb dX8_costBy_47 (by decide) (fun hc => ?_) (fun hc => ?_)
    · have hq := hq.1 hc
      refine lv_sipush (v := (1000 : Int32)) hx hb dX8_costBy_55 (by decide) ?_
      refine lv_iload hx hb dX8_costBy_58 (lv_at hl 2 rfl) ?_
      refine lv_imul hx hb dX8_costBy_60 ?_
      refine lv_iload hx hb dX8_costBy_61 (lv_at hl 1 rfl) ?_
      refine z_csi ⟨hx, hb, hml, hown, hts⟩ hw (kX8_size  hq) (va_cwS 1 hts gX8_costBy_X8_size rfl rfl rfl (by decide +kernel) ⟨Nat.le_of_ble_eq_true rfl, Nat.le_of_ble_eq_true rfl⟩) rfl hl.1 rfl (Nat.le_of_ble_eq_true rfl) dX8_costBy_63 ⟨Nat.zero_le _, Nat.zero_le _⟩ (fun r12 M0 J0 H locs hq hw => ?_)
      obtain ⟨hq, rfl, rfl⟩ := hq
      refine lv_iadd hx hb dX8_costBy_66 ?_
      refine lv_iload hx hb dX8_costBy_67 (lv_at hl 0 rfl) ?_
      refine lv_iadd hx hb dX8_costBy_69 ?_
      exact z_iret hQE hx hb hr hlk hw dX8_costBy_70 ⟨hq, rfl, rfl⟩
    · have hq := hq.2 hc
      refine lv_ldc (v := (1000000000 : Int32)) hx hb hown q1 dX8_costBy_50 ?_
      refine lv_goto (tgt := 70) hx hb dX8_costBy_52 (by decide) ?_
      exact z_iret hQE hx hb hr hlk hw dX8_costBy_70 ⟨hq, rfl, rfl⟩
  refine lv_icmp_le (tgt := 25) hx hb dX8_costBy_17 (by decide) (fun hc => ?_) (fun hc => ?_)
  · have hq := hq.1 hc
    refine lv_aload_n hx hb dX8_costBy_25 rfl (lv_at hl 1 rfl) ?_
    refine zg8_least hx hb g8 hown hw h_o0 q2 dX8_costBy_26 ?_
    refine lv_iload_n hx hb dX8_costBy_29 rfl (lv_at hl 2 rfl) ?_
    refine lv_iconst (v := (1 : Int32)) hx hb dX8_costBy_30 (by decide) ?_
    refine lv_iadd hx hb dX8_costBy_31 ?_
    refine lv_iload_n hx hb dX8_costBy_32 rfl (lv_at hl 4 rfl) ?_
    refine lv_iload hx hb dX8_costBy_33 (lv_at hl 5 rfl) ?_
    refine lv_iload hx hb dX8_costBy_35 (lv_at hl 6 rfl) ?_
    refine z_csi ⟨hx, hb, hml, hown, hts⟩ hw (kX8_place  hq) (va_cwS 4 hts gX8_costBy_X8_place rfl rfl rfl (by decide +kernel) ⟨Nat.le_of_ble_eq_true rfl, Nat.le_of_ble_eq_true rfl⟩) rfl hl.1 rfl (Nat.le_of_ble_eq_true rfl) dX8_costBy_37 ⟨Nat.zero_le _, Nat.zero_le _⟩ (fun r13 M0 J0 H locs hq hw => ?_)
    obtain ⟨hq, rfl, rfl⟩ := hq
    obtain ⟨hi, hq⟩ := hq
    refine z_iald (n := 4116) hx hb hw (zk_8_12 hC h_o0) hi dX8_costBy_40 ?_
    exact jn41 (M (o0 + 12) r13.toNatClampNeg) _ _ _ hq hw (lv_sub hl [6, 0] rfl)
  · have hq := hq.2 hc
    refine lv_ldc (v := (1000000000 : Int32)) hx hb hown q1 dX8_costBy_20 ?_
    refine lv_goto (tgt := 41) hx hb dX8_costBy_22 (by decide) ?_
    exact jn41 (1000000000 : Int32) _ _ _ hq hw (lv_sub hl [6, 0] rfl)
