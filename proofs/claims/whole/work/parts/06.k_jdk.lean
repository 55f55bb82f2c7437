theorem dJ7_fill_53178_0 : decode cJ7_fill_53178 0 = .ok (.iconst 0, 1) := by decide +kernel
theorem dJ7_fill_53178_1 : decode cJ7_fill_53178 1 = .ok (.istore_n 2, 1) := by decide +kernel
theorem dJ7_fill_53178_2 : decode cJ7_fill_53178 2 = .ok (.aload_n 0, 1) := by decide +kernel
theorem dJ7_fill_53178_3 : decode cJ7_fill_53178 3 = .ok (.arraylength, 1) := by decide +kernel
theorem dJ7_fill_53178_4 : decode cJ7_fill_53178 4 = .ok (.istore_n 3, 1) := by decide +kernel
theorem dJ7_fill_53178_5 : decode cJ7_fill_53178 5 = .ok (.iload_n 2, 1) := by decide +kernel
theorem dJ7_fill_53178_6 : decode cJ7_fill_53178 6 = .ok (.iload_n 3, 1) := by decide +kernel
theorem dJ7_fill_53178_7 : decode cJ7_fill_53178 7 = .ok (.if_icmp .ge 13, 3) := by decide +kernel
theorem dJ7_fill_53178_10 : decode cJ7_fill_53178 10 = .ok (.aload_n 0, 1) := by decide +kernel
theorem dJ7_fill_53178_11 : decode cJ7_fill_53178 11 = .ok (.iload_n 2, 1) := by decide +kernel
theorem dJ7_fill_53178_12 : decode cJ7_fill_53178 12 = .ok (.iload_n 1, 1) := by decide +kernel
theorem dJ7_fill_53178_13 : decode cJ7_fill_53178 13 = .ok (.iastore, 1) := by decide +kernel
theorem dJ7_fill_53178_14 : decode cJ7_fill_53178 14 = .ok (.iinc 2 1, 3) := by decide +kernel
theorem dJ7_fill_53178_17 : decode cJ7_fill_53178 17 = .ok (.goto (-12), 3) := by decide +kernel
theorem dJ7_fill_53178_20 : decode cJ7_fill_53178 20 = .ok (.return_, 1) := by decide +kernel
def rmJ7_fill_53178 : Room := { frames := 0, cells := 0, slots := 0, locals := 0 }
def lpJ7_fill_53178_5 (o0 : Nat) (n0 : Nat) (x1 : Int32) (Q : zM → Prop) : Nat → Int32 → zM → Prop
  | 0, _, _ => False
  | fu5 + 1, x4, M5 =>
    (((Int32.ofNat n0) ≤ x4) → (
    Q M5)) ∧
    ((¬ (Int32.ofNat n0) ≤ x4) → (
    vp_in x4 n0 ∧
    ∀ M6 : zM, M6 = va_up M5 o0 (upd (M5 o0) x4.toNatClampNeg x1) →
    ∀ x7 : Int32, x7 = x4 + (1 : Int32) →
    lpJ7_fill_53178_5 o0 n0 x1 Q fu5 x7 M6))
def wJ7_fill_53178 (M : zM) (o0 : Nat) (n0 : Nat) (x1 : Int32) (Q : zM → Prop) : Prop :=
    ∃ fu5 : Nat, lpJ7_fill_53178_5 o0 n0 x1 Q fu5 (0 : Int32) M
set_option maxHeartbeats 4000000 in
set_option maxRecDepth 100000 in
theorem kJ7_fill_53178 {l : Launch} {D : va_G} {Y : zY} {ad kd : Nat → Nat} {RL : List Nat} {M : zM} {J : zL} {o0 n0 : Nat} {x1 : Int32} (h_o0 : kd o0 = 1000 + n0) {Q : zM → Prop} (hq : wJ7_fill_53178 M o0 n0 x1 Q) : zCv l yJ7_fill_53178 wsJ7_fill_53178 rmJ7_fill_53178 [.ref (ad o0), .int x1] D Y ad kd RL M J (fun M' J' => Q M' ∧ J = J') := by
  refine z_metv (cc := cJ7_fill_53178) (maxL := 4) (ret := none) (by decide) rfl (Nat.le_of_ble_eq_true rfl) ?_
  intro p e s m below meth c ls A ar QE hQE hx hb hr hml hown hts hlk hw hl
  have hown : s.vm.findClass RJ7 = some m.cls := hown
  have hl : lv_has ls 4 [(0, .ref (ad o0)), (1, .int x1)] := hl
  have hC := hw.2.2.2.2.2.1
  unfold wJ7_fill_53178 at hq
  refine lv_iconst (v := (0 : Int32)) hx hb dJ7_fill_53178_0 (by decide) ?_
  refine lv_istore_n (lv' := [(2, .int (0 : Int32)), (0, .ref (ad o0)), (1, .int x1)]) hx hb dJ7_fill_53178_1 rfl hl (by decide) rfl (fun ls hl => ?_)
  refine lv_aload_n hx hb dJ7_fill_53178_2 rfl (lv_at hl 1 rfl) ?_
  refine z_alen (n := n0) (v := (Int32.ofNat n0)) hx hb hw h_o0 rfl dJ7_fill_53178_3 ?_
  refine lv_istore_n (lv' := [(3, .int (Int32.ofNat n0)), (2, .int (0 : Int32)), (0, .ref (ad o0)), (1, .int x1)]) hx hb dJ7_fill_53178_4 rfl hl (by decide) rfl (fun ls hl => ?_)
  obtain ⟨fu5, hq⟩ := hq
  have lp5 : ∀ (fu5 : Nat) (x4 : Int32) (M5 : zM) (H : Heap) (locs : List Loc) (ls : Array Slot), lpJ7_fill_53178_5 o0 n0 x1 Q fu5 x4 M5 → zH D Y ad kd RL M5 J A s.heap H locs s → lv_has ls 4 [(0, .ref (ad o0)), (1, .int x1), (2, .int x4), (3, .int (Int32.ofNat n0))] → W p l e rmJ7_fill_53178 s m ar below meth c H locs 0 0 QE (F0 m 5 ls []) := by
    intro fu5
    induction fu5 with
    | zero => intro x4 M5 H locs ls hq; exact hq.elim
    | succ fu5 ih5 =>
      intro x4 M5 H locs ls hq hw hl
      unfold lpJ7_fill_53178_5 at hq
      refine lv_iload_n hx hb dJ7_fill_53178_5 rfl (lv_at hl 2 rfl) ?_
      refine lv_iload_n hx hb dJ7_fill_53178_6 rfl (lv_at hl 3 rfl) ?_
      refine lv_icmp_ge (tgt := 20) hx hb dJ7_fill_53178_7 (by decide) (fun hc => ?_) (fun hc => ?_)
      · have hq := hq.1 hc
        exact z_vret hQE hx hb hr hlk hw dJ7_fill_53178_20 ⟨hq, rfl⟩
      · have hq := hq.2 hc
        refine lv_aload_n hx hb dJ7_fill_53178_10 rfl (lv_at hl 0 rfl) ?_
        refine lv_iload_n hx hb dJ7_fill_53178_11 rfl (lv_at hl 2 rfl) ?_
        refine lv_iload_n hx hb dJ7_fill_53178_12 rfl (lv_at hl 1 rfl) ?_
        obtain ⟨hi, hq⟩ := hq
        refine z_iast (n := n0) hx hb hw h_o0 hi dJ7_fill_53178_13 (fun H locs hw => ?_)
        obtain ⟨M6, e_M6⟩ : ∃ y : zM, y = va_up M5 o0 (upd (M5 o0) x4.toNatClampNeg x1) := ⟨_, rfl⟩
        rw [← e_M6] at hw
        have hq := hq M6 e_M6
        obtain ⟨x7, e_x7⟩ : ∃ y : Int32, y = x4 + (1 : Int32) := ⟨_, rfl⟩
        have hq := hq x7 e_x7
        refine lv_iinc (v := x7) (lv' := [(2, .int x7), (0, .ref (ad o0)), (1, .int x1), (3, .int (Int32.ofNat n0))]) hx hb dJ7_fill_53178_14 hl (k := 2) rfl (by rw [e_x7]; rfl) (by decide) rfl (fun ls hl => ?_)
        refine lv_goto (tgt := 5) hx hb dJ7_fill_53178_17 (by decide) ?_
        exact ih5 x7 M6 _ _ _ hq hw (lv_sub hl [1, 2, 0, 3] rfl)
  exact lp5 fu5 (0 : Int32) M _ _ _ hq hw (lv_sub hl [2, 3, 1, 0] rfl)
theorem dJ7_fill_d0a16_0 : decode cJ7_fill_d0a16 0 = .ok (.iconst 0, 1) := by decide +kernel
theorem dJ7_fill_d0a16_1 : decode cJ7_fill_d0a16 1 = .ok (.istore_n 3, 1) := by decide +kernel
theorem dJ7_fill_d0a16_2 : decode cJ7_fill_d0a16 2 = .ok (.aload_n 0, 1) := by decide +kernel
theorem dJ7_fill_d0a16_3 : decode cJ7_fill_d0a16 3 = .ok (.arraylength, 1) := by decide +kernel
theorem dJ7_fill_d0a16_4 : decode cJ7_fill_d0a16 4 = .ok (.istore 4, 2) := by decide +kernel
theorem dJ7_fill_d0a16_6 : decode cJ7_fill_d0a16 6 = .ok (.iload_n 3, 1) := by decide +kernel
theorem dJ7_fill_d0a16_7 : decode cJ7_fill_d0a16 7 = .ok (.iload 4, 2) := by decide +kernel
theorem dJ7_fill_d0a16_9 : decode cJ7_fill_d0a16 9 = .ok (.if_icmp .ge 13, 3) := by decide +kernel
theorem dJ7_fill_d0a16_12 : decode cJ7_fill_d0a16 12 = .ok (.aload_n 0, 1) := by decide +kernel
theorem dJ7_fill_d0a16_13 : decode cJ7_fill_d0a16 13 = .ok (.iload_n 3, 1) := by decide +kernel
theorem dJ7_fill_d0a16_14 : decode cJ7_fill_d0a16 14 = .ok (.lload_n 1, 1) := by decide +kernel
theorem dJ7_fill_d0a16_15 : decode cJ7_fill_d0a16 15 = .ok (.lastore, 1) := by decide +kernel
theorem dJ7_fill_d0a16_16 : decode cJ7_fill_d0a16 16 = .ok (.iinc 3 1, 3) := by decide +kernel
theorem dJ7_fill_d0a16_19 : decode cJ7_fill_d0a16 19 = .ok (.goto (-13), 3) := by decide +kernel
theorem dJ7_fill_d0a16_22 : decode cJ7_fill_d0a16 22 = .ok (.return_, 1) := by decide +kernel
def rmJ7_fill_d0a16 : Room := { frames := 0, cells := 0, slots := 0, locals := 0 }
def lpJ7_fill_d0a16_6 (M : zM) (o0 : Nat) (y1 : Int64) (Q : zM → zL → Prop) : Nat → Int32 → zL → Prop
  | 0, _, _ => False
  | fu6 + 1, x5, J6 =>
    (((8 : Int32) ≤ x5) → (
    Q M J6)) ∧
    ((¬ (8 : Int32) ≤ x5) → (
    vp_in x5 8 ∧
    ∀ J7 : zL, J7 = va_up J6 o0 (vp_updL (J6 o0) x5.toNatClampNeg y1) →
    ∀ x8 : Int32, x8 = x5 + (1 : Int32) →
    lpJ7_fill_d0a16_6 M o0 y1 Q fu6 x8 J7))
def wJ7_fill_d0a16 (M : zM) (J : zL) (o0 : Nat) (y1 : Int64) (Q : zM → zL → Prop) : Prop :=
    ∃ fu6 : Nat, lpJ7_fill_d0a16_6 M o0 y1 Q fu6 (0 : Int32) J
set_option maxHeartbeats 4000000 in
set_option maxRecDepth 100000 in
theorem kJ7_fill_d0a16 {l : Launch} {D : va_G} {Y : zY} {ad kd : Nat → Nat} {RL : List Nat} {M : zM} {J : zL} {o0 : Nat} {y1 : Int64} (h_o0 : kd o0 = 10) {Q : zM → zL → Prop} (hq : wJ7_fill_d0a16 M J o0 y1 Q) : zCv l yJ7_fill_d0a16 wsJ7_fill_d0a16 rmJ7_fill_d0a16 [.ref (ad o0), .long y1] D Y ad kd RL M J (fun M' J' => Q M' J') := by
  refine z_metv (cc := cJ7_fill_d0a16) (maxL := 5) (ret := none) (by decide) rfl (Nat.le_of_ble_eq_true rfl) ?_
  intro p e s m below meth c ls A ar QE hQE hx hb hr hml hown hts hlk hw hl
  have hown : s.vm.findClass RJ7 = some m.cls := hown
  have hl : lv_has ls 5 [(0, .ref (ad o0)), (1, .long y1)] := hl
  have hC := hw.2.2.2.2.2.1
  unfold wJ7_fill_d0a16 at hq
  refine lv_iconst (v := (0 : Int32)) hx hb dJ7_fill_d0a16_0 (by decide) ?_
  refine lv_istore_n (lv' := [(3, .int (0 : Int32)), (0, .ref (ad o0)), (1, .long y1)]) hx hb dJ7_fill_d0a16_1 rfl hl (by decide) rfl (fun ls hl => ?_)
  refine lv_aload_n hx hb dJ7_fill_d0a16_2 rfl (lv_at hl 1 rfl) ?_
  refine z_llen (v := (8 : Int32)) hx hb hw h_o0 (by decide) dJ7_fill_d0a16_3 ?_
  refine lv_istore (lv' := [(4, .int (8 : Int32)), (3, .int (0 : Int32)), (0, .ref (ad o0)), (1, .long y1)]) hx hb dJ7_fill_d0a16_4 hl (by decide) rfl (fun ls hl => ?_)
  obtain ⟨fu6, hq⟩ := hq
  have lp6 : ∀ (fu6 : Nat) (x5 : Int32) (J6 : zL) (H : Heap) (locs : List Loc) (ls : Array Slot), lpJ7_fill_d0a16_6 M o0 y1 Q fu6 x5 J6 → zH D Y ad kd RL M J6 A s.heap H locs s → lv_has ls 5 [(0, .ref (ad o0)), (1, .long y1), (3, .int x5), (4, .int (8 : Int32))] → W p l e rmJ7_fill_d0a16 s m ar below meth c H locs 0 0 QE (F0 m 6 ls []) := by
    intro fu6
    induction fu6 with
    | zero => intro x5 J6 H locs ls hq; exact hq.elim
    | succ fu6 ih6 =>
      intro x5 J6 H locs ls hq hw hl
      unfold lpJ7_fill_d0a16_6 at hq
      refine lv_iload_n hx hb dJ7_fill_d0a16_6 rfl (lv_at hl 2 rfl) ?_
      refine lv_iload hx hb dJ7_fill_d0a16_7 (lv_at hl 3 rfl) ?_
      refine lv_icmp_ge (tgt := 22) hx hb dJ7_fill_d0a16_9 (by decide) (fun hc => ?_) (fun hc => ?_)
      · have hq := hq.1 hc
        exact z_vret hQE hx hb hr hlk hw dJ7_fill_d0a16_22 hq
      · have hq := hq.2 hc
        refine lv_aload_n hx hb dJ7_fill_d0a16_12 rfl (lv_at hl 0 rfl) ?_
        refine lv_iload_n hx hb dJ7_fill_d0a16_13 rfl (lv_at hl 2 rfl) ?_
        refine lv_lload_n hx hb dJ7_fill_d0a16_14 rfl (lv_at hl 1 rfl) ?_
        obtain ⟨hi, hq⟩ := hq
        refine z_last hx hb hw h_o0 hi dJ7_fill_d0a16_15 (fun H locs hw => ?_)
        obtain ⟨J7, e_J7⟩ : ∃ y : zL, y = va_up J6 o0 (vp_updL (J6 o0) x5.toNatClampNeg y1) := ⟨_, rfl⟩
        rw [← e_J7] at hw
        have hq := hq J7 e_J7
        obtain ⟨x8, e_x8⟩ : ∃ y : Int32, y = x5 + (1 : Int32) := ⟨_, rfl⟩
        have hq := hq x8 e_x8
        refine lv_iinc (v := x8) (lv' := [(3, .int x8), (0, .ref (ad o0)), (1, .long y1), (4, .int (8 : Int32))]) hx hb dJ7_fill_d0a16_16 hl (k := 2) rfl (by rw [e_x8]; rfl) (by decide) rfl (fun ls hl => ?_)
        refine lv_goto (tgt := 6) hx hb dJ7_fill_d0a16_19 (by decide) ?_
        exact ih6 x8 J7 _ _ _ hq hw (lv_sub hl [1, 2, 0, 3] rfl)
  exact lp6 fu6 (0 : Int32) J _ _ _ hq hw (lv_sub hl [2, 3, 1, 0] rfl)
