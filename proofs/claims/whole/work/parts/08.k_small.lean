set_option maxRecDepth 20000 in
theorem ggX0_answer_X0_run : GoodIn wsX0_answer wsX0_run := goodIn_r _ [8, 9, 10, 11, 12, 7, 13, 14, 15, 16, 17, 18, 19, 20, 21, 22, 23, 24, 25, 26, 27, 4, 5, 6, 28, 29, 30, 0, 1, 2, 3, 31, 32, 33, 34, 35, 36, 37, 38] (by decide +kernel) (by decide +kernel)
set_option maxRecDepth 20000 in
theorem gX0_answer_X0_run : GoodIn wsX0_answer (wsV RX0 37 RX0 yX0_run wsX0_run) := goodIn_app (goodIn_of _ (by decide +kernel)) ggX0_answer_X0_run
theorem dX0_answer_0 : decode cX0_answer 0 = .ok (.aload_n 1, 1) := by decide +kernel
theorem dX0_answer_1 : decode cX0_answer 1 = .ok (.getfield 23, 3) := by decide +kernel
theorem dX0_answer_4 : decode cX0_answer 4 = .ok (.iload_n 2, 1) := by decide +kernel
theorem dX0_answer_5 : decode cX0_answer 5 = .ok (.iaload, 1) := by decide +kernel
theorem dX0_answer_6 : decode cX0_answer 6 = .ok (.istore 5, 2) := by decide +kernel
theorem dX0_answer_8 : decode cX0_answer 8 = .ok (.iconst 0, 1) := by decide +kernel
theorem dX0_answer_9 : decode cX0_answer 9 = .ok (.istore 6, 2) := by decide +kernel
theorem dX0_answer_11 : decode cX0_answer 11 = .ok (.iload 6, 2) := by decide +kernel
theorem dX0_answer_13 : decode cX0_answer 13 = .ok (.getstatic 28, 3) := by decide +kernel
theorem dX0_answer_16 : decode cX0_answer 16 = .ok (.arraylength, 1) := by decide +kernel
theorem dX0_answer_17 : decode cX0_answer 17 = .ok (.if_icmp .ge 59, 3) := by decide +kernel
theorem dX0_answer_20 : decode cX0_answer 20 = .ok (.iload 5, 2) := by decide +kernel
theorem dX0_answer_22 : decode cX0_answer 22 = .ok (.ifCond .lt 54, 3) := by decide +kernel
theorem dX0_answer_25 : decode cX0_answer 25 = .ok (.iload_n 3, 1) := by decide +kernel
theorem dX0_answer_26 : decode cX0_answer 26 = .ok (.ifCond .ne 12, 3) := by decide +kernel
theorem dX0_answer_29 : decode cX0_answer 29 = .ok (.getstatic 31, 3) := by decide +kernel
theorem dX0_answer_32 : decode cX0_answer 32 = .ok (.iload 5, 2) := by decide +kernel
theorem dX0_answer_34 : decode cX0_answer 34 = .ok (.iaload, 1) := by decide +kernel
theorem dX0_answer_35 : decode cX0_answer 35 = .ok (.goto 9, 3) := by decide +kernel
theorem dX0_answer_38 : decode cX0_answer 38 = .ok (.getstatic 34, 3) := by decide +kernel
theorem dX0_answer_41 : decode cX0_answer 41 = .ok (.iload 5, 2) := by decide +kernel
theorem dX0_answer_43 : decode cX0_answer 43 = .ok (.iaload, 1) := by decide +kernel
theorem dX0_answer_44 : decode cX0_answer 44 = .ok (.istore 7, 2) := by decide +kernel
theorem dX0_answer_46 : decode cX0_answer 46 = .ok (.iload 7, 2) := by decide +kernel
theorem dX0_answer_48 : decode cX0_answer 48 = .ok (.ifCond .eq 14, 3) := by decide +kernel
theorem dX0_answer_51 : decode cX0_answer 51 = .ok (.aload_n 0, 1) := by decide +kernel
theorem dX0_answer_52 : decode cX0_answer 52 = .ok (.aload_n 1, 1) := by decide +kernel
theorem dX0_answer_53 : decode cX0_answer 53 = .ok (.iload_n 2, 1) := by decide +kernel
theorem dX0_answer_54 : decode cX0_answer 54 = .ok (.iload 7, 2) := by decide +kernel
theorem dX0_answer_56 : decode cX0_answer 56 = .ok (.iload 4, 2) := by decide +kernel
theorem dX0_answer_58 : decode cX0_answer 58 = .ok (.invokevirtual 37, 3) := by decide +kernel
theorem dX0_answer_61 : decode cX0_answer 61 = .ok (.ireturn, 1) := by decide +kernel
theorem dX0_answer_62 : decode cX0_answer 62 = .ok (.getstatic 28, 3) := by decide +kernel
theorem dX0_answer_65 : decode cX0_answer 65 = .ok (.iload 5, 2) := by decide +kernel
theorem dX0_answer_67 : decode cX0_answer 67 = .ok (.iaload, 1) := by decide +kernel
theorem dX0_answer_68 : decode cX0_answer 68 = .ok (.istore 5, 2) := by decide +kernel
theorem dX0_answer_70 : decode cX0_answer 70 = .ok (.iinc 6 1, 3) := by decide +kernel
theorem dX0_answer_73 : decode cX0_answer 73 = .ok (.goto (-62), 3) := by decide +kernel
theorem dX0_answer_76 : decode cX0_answer 76 = .ok (.iconst 0, 1) := by decide +kernel
theorem dX0_answer_77 : decode cX0_answer 77 = .ok (.ireturn, 1) := by decide +kernel
def rmR (d : Nat) : Room := { frames := 2 * d + 4, cells := 0, slots := 0, locals := 100 * d + 200 }
def rmA (d : Nat) : Room := { frames := 2 * d + 5, cells := 0, slots := 0, locals := 100 * d + 260 }
def jnX0_answer_44 (x7 : Int32) (x8 : Int32) (B11 : Int32 → Int32 → Prop) (K11_51 : Int32 → Int32 → Int32 → Prop) (x14 : Int32) : Prop :=
    ((x14 = 0) → (
    vp_in x7 6 ∧
    ∀ x15 : Int32, x15 = x8 + (1 : Int32) →
    B11 (zalso x7.toNatClampNeg) x15)) ∧
    ((¬ x14 = 0) → (
    K11_51 x7 x8 x14))
def lpX0_answer_11 (M : zM) (x3 : Int32) (Q : Int32 → zM → Prop) (K11_51 : Int32 → Int32 → Int32 → Prop) : Nat → Int32 → Int32 → Prop
  | 0, _, _ => False
  | fu11 + 1, x7, x8 =>
    (((6 : Int32) ≤ x8) → (
    Q (0 : Int32) M)) ∧
    ((¬ (6 : Int32) ≤ x8) → (
    ((x7 < 0) → (
    Q (0 : Int32) M)) ∧
    ((¬ x7 < 0) → (
    ((¬ x3 = 0) → (
    vp_in x7 6 ∧
    jnX0_answer_44 x7 x8 (lpX0_answer_11 M x3 Q K11_51 fu11) K11_51 (zmarks x7.toNatClampNeg))) ∧
    ((x3 = 0) → (
    vp_in x7 6 ∧
    jnX0_answer_44 x7 x8 (lpX0_answer_11 M x3 Q K11_51 fu11) K11_51 (zsizes x7.toNatClampNeg)))))))
def wX0_answer (RN : zM → Nat → Nat → Int32 → Int32 → Int32 → (Int32 → zM → Prop) → Prop) (M : zM) (o0 : Nat) (o1 : Nat) (x2 : Int32) (x3 : Int32) (x4 : Int32) (Q : Int32 → zM → Prop) : Prop :=
    vp_in x2 12 ∧
    ∃ fu11 : Nat, lpX0_answer_11 M x3 Q (fun x9 x10 x11 =>
    RN M o0 o1 x2 x11 x4 (fun r12 M13 =>
    Q r12 M13)) fu11 (M (o1 + 1) x2.toNatClampNeg) (0 : Int32)
set_option maxHeartbeats 4000000 in
set_option maxRecDepth 100000 in
theorem kX0_answer {l : Launch} {D : va_G} {Y : zY} {ad kd : Nat → Nat} {RL : List Nat} {J : zL} {o0 o1 : Nat} (dd : Nat) {RN : zM → Nat → Nat → Int32 → Int32 → Int32 → (Int32 → zM → Prop) → Prop} (hRN : ∀ {M : zM} {x2 x3 x4 : Int32} {Q : Int32 → zM → Prop}, RN M o0 o1 x2 x3 x4 Q → zCi l yX0_run wsX0_run (rmR dd) [.ref (ad o0), .ref (ad o1), .int x2, .int x3, .int x4] D Y ad kd RL M J (fun r M' J' => Q r M' ∧ J = J')) (h_o0 : kd o0 = 0) (h_o1 : kd o1 = 2) {M : zM} {x2 x3 x4 : Int32} {Q : Int32 → zM → Prop} (hq : wX0_answer RN M o0 o1 x2 x3 x4 Q) : zCi l yX0_answer wsX0_answer (rmA dd) [.ref (ad o0), .ref (ad o1), .int x2, .int x3, .int x4] D Y ad kd RL M J (fun r M' J' => Q r M' ∧ J = J') := by
  refine z_meti (cc := cX0_answer) (maxL := 8) (ret := (some .int)) (by decide) rfl (Nat.le_of_ble_eq_true rfl) ?_
  intro p e s m below meth c ls A ar QE hQE hx hb hr hml hown hts hlk hw hl
  have hown : s.vm.findClass RX0 = some m.cls := hown
  have hl : lv_has ls 8 [(0, .ref (ad o0)), (1, .ref (ad o1)), (2, .int x2), (3, .int x3), (4, .int x4)] := hl
  have hC := hw.2.2.2.2.2.1
  obtain ⟨t0, t1, t2, hz0, hT0, hz1, hT1, hz2, hT2⟩ := hw.2.2.2.2.2.2.2.2.2
  have g2 : ∀ w ∈ wsX20, w.before ar s = true := (fun w h => hts w (List.mem_cons_of_mem _ (List.mem_append_left _ (List.mem_append_right _ h))))
  have q1 := hts _ (List.mem_of_getElem? (i := 1) rfl)
  have q2 := hts _ (List.mem_of_getElem? (i := 2) rfl)
  have q3 := hts _ (List.mem_of_getElem? (i := 3) rfl)
  unfold wX0_answer at hq
  refine lv_aload_n hx hb dX0_answer_0 rfl (lv_at hl 1 rfl) ?_
  refine zg2_kinds hx hb g2 hown hw h_o1 q1 dX0_answer_1 ?_
  refine lv_iload_n hx hb dX0_answer_4 rfl (lv_at hl 2 rfl) ?_
  obtain ⟨hi, hq⟩ := hq
  refine z_iald (n := 12) hx hb hw (zk_2_1 hC h_o1) hi dX0_answer_5 ?_
  refine lv_istore (lv' := [(5, .int (M (o1 + 1) x2.toNatClampNeg)), (0, .ref (ad o0)), (1, .ref (ad o1)), (2, .int x2), (3, .int x3), (4, .int x4)]) hx hb dX0_answer_6 hl (by decide) rfl (fun ls hl => ?_)
  refine lv_iconst (v := (0 : Int32)) hx hb dX0_answer_8 (by decide) ?_
  refine lv_istore (lv' := [(6, .int (0 : Int32)), (5, .int (M (o1 + 1) x2.toNatClampNeg)), (0, .ref (ad o0)), (1, .ref (ad o1)), (2, .int x2), (3, .int x3), (4, .int x4)]) hx hb dX0_answer_9 hl (by decide) rfl (fun ls hl => ?_)
  have ex11_51 : ∀ (x9 : Int32) (x10 : Int32) (x11 : Int32) (H : Heap) (locs : List Loc) (ls : Array Slot), (RN M o0 o1 x2 x11 x4 (fun r12 M13 => Q r12 M13)) → zH D Y ad kd RL M J A s.heap H locs s → lv_has ls 8 [(0, .ref (ad o0)), (1, .ref (ad o1)), (2, .int x2), (4, .int x4), (7, .int x11)] → W p l e (rmA dd) s m ar below meth c H locs 0 0 QE (F0 m 51 ls []) := by
    intro x9 x10 x11 H locs ls hq hw hl
    refine lv_aload_n hx hb dX0_answer_51 rfl (lv_at hl 0 rfl) ?_
    refine lv_aload_n hx hb dX0_answer_52 rfl (lv_at hl 1 rfl) ?_
    refine lv_iload_n hx hb dX0_answer_53 rfl (lv_at hl 2 rfl) ?_
    refine lv_iload hx hb dX0_answer_54 (lv_at hl 4 rfl) ?_
    refine lv_iload hx hb dX0_answer_56 (lv_at hl 3 rfl) ?_
    refine z_cvi ⟨hx, hb, hml, hown, hts⟩ hw h_o0 (hRN  hq) (by decide) rfl (cwV 4 hts gX0_answer_X0_run rfl rfl rfl (by decide +kernel) ⟨by simp [rmR, rmA] <;> omega, by simp [rmR, rmA] <;> omega⟩) rfl hl.1 rfl (Nat.le_of_ble_eq_true rfl) dX0_answer_58 ⟨Nat.zero_le _, Nat.zero_le _⟩ (fun r12 M13 J0 H locs hq hw => ?_)
    obtain ⟨hq, rfl⟩ := hq
    exact z_iret hQE hx hb hr hlk hw dX0_answer_61 ⟨hq, rfl⟩
  obtain ⟨fu11, hq⟩ := hq
  have lp11 : ∀ (fu11 : Nat) (x7 : Int32) (x8 : Int32) (H : Heap) (locs : List Loc) (ls : Array Slot), lpX0_answer_11 M x3 Q (fun x9 x10 x11 => RN M o0 o1 x2 x11 x4 (fun r12 M13 => Q r12 M13)) fu11 x7 x8 → zH D Y ad kd RL M J A s.heap H locs s → lv_has ls 8 [(0, .ref (ad o0)), (1, .ref (ad o1)), (2, .int x2), (3, .int x3), (4, .int x4), (5, .int x7), (6, .int x8)] → W p l e (rmA dd) s m ar below meth c H locs 0 0 QE (F0 m 11 ls []) := by
    intro fu11
    induction fu11 with
    | zero => intro x7 x8 H locs ls hq; exact hq.elim
    | succ fu11 ih11 =>
      intro x7 x8 H locs ls hq hw hl
      unfold lpX0_answer_11 at hq
      refine lv_iload hx hb dX0_answer_11 (lv_at hl 6 rfl) ?_
      refine va_getsN hx hb hz0 hw.2.2.2.1 hown (va_Nw.use rfl hw.2.2.2.2.2.2.2.2.1.2.2.2.2.2.2.2.2.2.1) (fun _ h => h) dX0_answer_13 ?_
      refine va_tlen (v := (6 : Int32)) hx hb hT0 hw.2.2.2.1 (by decide) dX0_answer_16 ?_
      refine lv_icmp_ge (tgt := 76) hx hb dX0_answer_17 (by decide) (fun hc => ?_) (fun hc => ?_)
      · have hq := hq.1 hc
        refine lv_iconst (v := (0 : Int32)) hx hb dX0_answer_76 (by decide) ?_
        exact z_iret hQE hx hb hr hlk hw dX0_answer_77 ⟨hq, rfl⟩
      · have hq := hq.2 hc
        refine lv_iload hx hb dX0_answer_20 (lv_at hl 5 rfl) ?_
        refine lv_if_lt (tgt := 76) hx hb dX0_answer_22 (by decide) (fun hc => ?_) (fun hc => ?_)
        · have hq := hq.1 hc
          refine lv_iconst (v := (0 : Int32)) hx hb dX0_answer_76 (by decide) ?_
          exact z_iret hQE hx hb hr hlk hw dX0_answer_77 ⟨hq, rfl⟩
        · have hq := hq.2 hc
          refine lv_iload_n hx hb dX0_answer_25 rfl (lv_at hl 3 rfl) ?_
          have jn44 : ∀ (x14 : Int32) (H : Heap) (locs : List Loc) (ls : Array Slot), jnX0_answer_44 x7 x8 (lpX0_answer_11 M x3 Q (fun x9 x10 x11 => RN M o0 o1 x2 x11 x4 (fun r12 M13 => Q r12 M13)) fu11) (fun x9 x10 x11 => RN M o0 o1 x2 x11 x4 (fun r12 M13 => Q r12 M13)) x14 → zH D Y ad kd RL M J A s.heap H locs s → lv_has ls 8 [(0, .ref (ad o0)), (1, .ref (ad o1)), (2, .int x2), (3, .int x3), (4, .int x4), (5, .int x7), (6, .int x8)] → W p l e (rmA dd) s m ar below meth c H locs 0 0 QE (F0 m 44 ls [.int x14]) := by
            intro x14 H locs ls hq hw hl
            unfold jnX0_answer_44 at hq
            refine lv_istore (lv' := [(7, .int x14), (0, .ref (ad o0)), (1, .ref (ad o1)), (2, .int x2), (3, .int x3), (4, .int x4), (5, .int x7), (6, .int x8)]) hx hb dX0_answer_44 hl (by decide) rfl (fun ls hl => ?_)
            refine lv_iload hx hb dX0_answer_46 (lv_at hl 0 rfl) ?_
            refine lv_if_eq (tgt := 62) hx hb dX0_answer_48 (by decide) (fun hc => ?_) (fun hc => ?_)
            · have hq := hq.1 hc
              refine va_getsN hx hb hz0 hw.2.2.2.1 hown (va_Nw.use rfl hw.2.2.2.2.2.2.2.2.1.2.2.2.2.2.2.2.2.2.1) (fun _ h => h) dX0_answer_62 ?_
              refine lv_iload hx hb dX0_answer_65 (lv_at hl 6 rfl) ?_
              obtain ⟨hi, hq⟩ := hq
              refine va_ti hx hb hT0 hw.2.2.2.1 hi rfl dX0_answer_67 ?_
              refine lv_istore (lv' := [(5, .int (zalso x7.toNatClampNeg)), (7, .int x14), (0, .ref (ad o0)), (1, .ref (ad o1)), (2, .int x2), (3, .int x3), (4, .int x4), (6, .int x8)]) hx hb dX0_answer_68 hl (by decide) rfl (fun ls hl => ?_)
              obtain ⟨x15, e_x15⟩ : ∃ y : Int32, y = x8 + (1 : Int32) := ⟨_, rfl⟩
              have hq := hq x15 e_x15
              refine lv_iinc (v := x15) (lv' := [(6, .int x15), (5, .int (zalso x7.toNatClampNeg)), (7, .int x14), (0, .ref (ad o0)), (1, .ref (ad o1)), (2, .int x2), (3, .int x3), (4, .int x4)]) hx hb dX0_answer_70 hl (k := 7) rfl (by rw [e_x15]; rfl) (by decide) rfl (fun ls hl => ?_)
              refine lv_goto (tgt := 11) hx hb dX0_answer_73 (by decide) ?_
              exact ih11 (zalso x7.toNatClampNeg) x15 _ _ _ hq hw (lv_sub hl [3, 4, 5, 6, 7, 1, 0] rfl)
            · have hq := hq.2 hc
              exact ex11_51 x7 x8 x14 _ _ _ hq hw (lv_sub hl [1, 2, 3, 5, 0] rfl)
          refine lv_if_ne (tgt := 38) hx hb dX0_answer_26 (by decide) (fun hc => ?_) (fun hc => ?_)
          · have hq := hq.1 hc
            refine va_gets hx hb hz2 hw.2.2.2.1 hown q3 (fun _ h => h) dX0_answer_38 ?_
            refine lv_iload hx hb dX0_answer_41 (lv_at hl 5 rfl) ?_
            obtain ⟨hi, hq⟩ := hq
            refine va_ti hx hb hT2 hw.2.2.2.1 hi rfl dX0_answer_43 ?_
            exact jn44 (zmarks x7.toNatClampNeg) _ _ _ hq hw (lv_sub hl [0, 1, 2, 3, 4, 5, 6] rfl)
          · have hq := hq.2 hc
            refine va_gets hx hb hz1 hw.2.2.2.1 hown q2 (fun _ h => h) dX0_answer_29 ?_
            refine lv_iload hx hb dX0_answer_32 (lv_at hl 5 rfl) ?_
            obtain ⟨hi, hq⟩ := hq
            refine va_ti hx hb hT1 hw.2.2.2.1 hi rfl dX0_answer_34 ?_
            refine lv_goto (tgt := 44) hx hb dX0_answer_35 (by decide) ?_
            exact jn44 (zsizes x7.toNatClampNeg) _ _ _ hq hw (lv_sub hl [0, 1, 2, 3, 4, 5, 6] rfl)
  exact lp11 fu11 (M (o1 + 1) x2.toNatClampNeg) (0 : Int32) _ _ _ hq hw (lv_sub hl [2, 3, 4, 5, 6, 1, 0] rfl)
theorem dX0_leave_0 : decode cX0_leave 0 = .ok (.aload_n 0, 1) := by decide +kernel
theorem dX0_leave_1 : decode cX0_leave 1 = .ok (.getfield 15, 3) := by decide +kernel
theorem dX0_leave_4 : decode cX0_leave 4 = .ok (.bipush 16, 2) := by decide +kernel
theorem dX0_leave_6 : decode cX0_leave 6 = .ok (.if_icmp .ge 23, 3) := by decide +kernel
theorem dX0_leave_9 : decode cX0_leave 9 = .ok (.aload_n 0, 1) := by decide +kernel
theorem dX0_leave_10 : decode cX0_leave 10 = .ok (.getfield 9, 3) := by decide +kernel
theorem dX0_leave_13 : decode cX0_leave 13 = .ok (.aload_n 0, 1) := by decide +kernel
theorem dX0_leave_14 : decode cX0_leave 14 = .ok (.getfield 15, 3) := by decide +kernel
theorem dX0_leave_17 : decode cX0_leave 17 = .ok (.iload_n 1, 1) := by decide +kernel
theorem dX0_leave_18 : decode cX0_leave 18 = .ok (.iastore, 1) := by decide +kernel
theorem dX0_leave_19 : decode cX0_leave 19 = .ok (.aload_n 0, 1) := by decide +kernel
theorem dX0_leave_20 : decode cX0_leave 20 = .ok (.dup, 1) := by decide +kernel
theorem dX0_leave_21 : decode cX0_leave 21 = .ok (.getfield 15, 3) := by decide +kernel
theorem dX0_leave_24 : decode cX0_leave 24 = .ok (.iconst 1, 1) := by decide +kernel
theorem dX0_leave_25 : decode cX0_leave 25 = .ok (.iadd, 1) := by decide +kernel
theorem dX0_leave_26 : decode cX0_leave 26 = .ok (.putfield 15, 3) := by decide +kernel
theorem dX0_leave_29 : decode cX0_leave 29 = .ok (.return_, 1) := by decide +kernel
def rmX0_leave : Room := { frames := 0, cells := 0, slots := 0, locals := 0 }
def wX0_leave (M : zM) (o0 : Nat) (x1 : Int32) (Q : zM → Prop) : Prop :=
    (((16 : Int32) ≤ (M o0 0)) → (
    Q M)) ∧
    ((¬ (16 : Int32) ≤ (M o0 0)) → (
    vp_in (M o0 0) 16 ∧
    ∀ M4 : zM, M4 = va_up M (o0 + 1) (upd (M (o0 + 1)) (M o0 0).toNatClampNeg x1) →
    ∀ M5 : zM, M5 = va_up M4 o0 (upd (M4 o0) 0 ((M4 o0 0) + (1 : Int32))) →
    Q M5))
set_option maxHeartbeats 4000000 in
set_option maxRecDepth 100000 in
theorem kX0_leave {l : Launch} {D : va_G} {Y : zY} {ad kd : Nat → Nat} {RL : List Nat} {M : zM} {J : zL} {o0 : Nat} {x1 : Int32} (h_o0 : kd o0 = 0) {Q : zM → Prop} (hq : wX0_leave M o0 x1 Q) : zCv l yX0_leave wsX0_leave rmX0_leave [.ref (ad o0), .int x1] D Y ad kd RL M J (fun M' J' => Q M' ∧ J = J') := by
  refine z_metv (cc := cX0_leave) (maxL := 2) (ret := none) (by decide) rfl (Nat.le_of_ble_eq_true rfl) ?_
  intro p e s m below meth c ls A ar QE hQE hx hb hr hml hown hts hlk hw hl
  have hown : s.vm.findClass RX0 = some m.cls := hown
  have hl : lv_has ls 2 [(0, .ref (ad o0)), (1, .int x1)] := hl
  have hC := hw.2.2.2.2.2.1
  have g0 : ∀ w ∈ wsX00, w.before ar s = true := (fun w h => hts w (List.mem_cons_of_mem _ (List.mem_append_right _ h)))
  have q1 := hts _ (List.mem_of_getElem? (i := 1) rfl)
  have q2 := hts _ (List.mem_of_getElem? (i := 2) rfl)
  unfold wX0_leave at hq
  refine lv_aload_n hx hb dX0_leave_0 rfl (lv_at hl 0 rfl) ?_
  refine zg0_left hx hb g0 hown hw h_o0 q1 dX0_leave_1 ?_
  refine lv_bipush (v := (16 : Int32)) hx hb dX0_leave_4 (by decide) ?_
  refine lv_icmp_ge (tgt := 29) hx hb dX0_leave_6 (by decide) (fun hc => ?_) (fun hc => ?_)
  · have hq := hq.1 hc
    exact z_vret hQE hx hb hr hlk hw dX0_leave_29 ⟨hq, rfl⟩
  · have hq := hq.2 hc
    refine lv_aload_n hx hb dX0_leave_9 rfl (lv_at hl 0 rfl) ?_
    refine zg0_trace hx hb g0 hown hw h_o0 q2 dX0_leave_10 ?_
    refine lv_aload_n hx hb dX0_leave_13 rfl (lv_at hl 0 rfl) ?_
    refine zg0_left hx hb g0 hown hw h_o0 q1 dX0_leave_14 ?_
    refine lv_iload_n hx hb dX0_leave_17 rfl (lv_at hl 1 rfl) ?_
    obtain ⟨hi, hq⟩ := hq
    refine z_iast (n := 16) hx hb hw (zk_0_1 hC h_o0) hi dX0_leave_18 (fun H locs hw => ?_)
    obtain ⟨M4, e_M4⟩ : ∃ y : zM, y = va_up M (o0 + 1) (upd (M (o0 + 1)) (M o0 0).toNatClampNeg x1) := ⟨_, rfl⟩
    rw [← e_M4] at hw
    have hq := hq M4 e_M4
    refine lv_aload_n hx hb dX0_leave_19 rfl (lv_at hl 0 rfl) ?_
    refine lv_dup hx hb dX0_leave_20 rfl ?_
    refine zg0_left hx hb g0 hown hw h_o0 q1 dX0_leave_21 ?_
    refine lv_iconst (v := (1 : Int32)) hx hb dX0_leave_24 (by decide) ?_
    refine lv_iadd hx hb dX0_leave_25 ?_
    refine zp0_left hx hb g0 hown hw h_o0 q1 dX0_leave_26 (fun H locs hw => ?_)
    obtain ⟨M5, e_M5⟩ : ∃ y : zM, y = va_up M4 o0 (upd (M4 o0) 0 ((M4 o0 0) + (1 : Int32))) := ⟨_, rfl⟩
    rw [← e_M5] at hw
    have hq := hq M5 e_M5
    exact z_vret hQE hx hb hr hlk hw dX0_leave_29 ⟨hq, rfl⟩
set_option maxRecDepth 20000 in
theorem ggX0_run_X0_leave : GoodIn wsX0_run wsX0_leave := goodIn_r _ [6, 7, 8, 37, 38] (by decide +kernel) (by decide +kernel)
set_option maxRecDepth 20000 in
theorem gX0_run_X0_leave : GoodIn wsX0_run (wsV RX0 40 RX0 yX0_leave wsX0_leave) := goodIn_app (goodIn_of _ (by decide +kernel)) ggX0_run_X0_leave
set_option maxRecDepth 20000 in
theorem ggX0_run_X2_now : GoodIn wsX0_run wsX2_now := goodIn_r _ [13, 14, 15, 16, 17, 18, 12, 19, 20, 31, 32, 33, 34, 35, 36] (by decide +kernel) (by decide +kernel)
set_option maxRecDepth 20000 in
theorem gX0_run_X2_now : GoodIn wsX0_run (wsV RX0 44 RX2 yX2_now wsX2_now) := goodIn_app (goodIn_of _ (by decide +kernel)) ggX0_run_X2_now
set_option maxRecDepth 20000 in
theorem ggX0_run_X0_run : GoodIn wsX0_run wsX0_run := goodIn_r _ [0, 1, 2, 3, 4, 5, 6, 7, 8, 9, 10, 11, 12, 13, 14, 15, 16, 17, 18, 19, 20, 21, 22, 23, 24, 25, 26, 27, 28, 29, 30, 31, 32, 33, 34, 35, 36, 37, 38] (by decide +kernel) (by decide +kernel)
set_option maxRecDepth 20000 in
theorem gX0_run_X0_run : GoodIn wsX0_run (wsV RX0 37 RX0 yX0_run wsX0_run) := goodIn_app (goodIn_of _ (by decide +kernel)) ggX0_run_X0_run
set_option maxRecDepth 20000 in
theorem ggX0_run_X0_answer : GoodIn wsX0_run wsX0_answer := goodIn_r _ [27, 28, 29, 30, 21, 22, 23, 5, 0, 1, 2, 3, 4, 6, 7, 8, 9, 10, 11, 12, 13, 14, 15, 16, 17, 18, 19, 20, 24, 25, 26, 31, 32, 33, 34, 35, 36, 37, 38] (by decide +kernel) (by decide +kernel)
set_option maxRecDepth 20000 in
theorem gX0_run_X0_answer : GoodIn wsX0_run (wsV RX0 19 RX0 yX0_answer wsX0_answer) := goodIn_app (goodIn_of _ (by decide +kernel)) ggX0_run_X0_answer
theorem dX0_run_0 : decode cX0_run 0 = .ok (.iload 4, 2) := by decide +kernel
theorem dX0_run_2 : decode cX0_run 2 = .ok (.bipush 16, 2) := by decide +kernel
theorem dX0_run_4 : decode cX0_run 4 = .ok (.if_icmp .lt 5, 3) := by decide +kernel
theorem dX0_run_7 : decode cX0_run 7 = .ok (.iconst 0, 1) := by decide +kernel
theorem dX0_run_8 : decode cX0_run 8 = .ok (.ireturn, 1) := by decide +kernel
theorem dX0_run_9 : decode cX0_run 9 = .ok (.aload_n 0, 1) := by decide +kernel
theorem dX0_run_10 : decode cX0_run 10 = .ok (.iload_n 3, 1) := by decide +kernel
theorem dX0_run_11 : decode cX0_run 11 = .ok (.invokevirtual 40, 3) := by decide +kernel
theorem dX0_run_14 : decode cX0_run 14 = .ok (.iload 4, 2) := by decide +kernel
theorem dX0_run_16 : decode cX0_run 16 = .ok (.iconst 1, 1) := by decide +kernel
theorem dX0_run_17 : decode cX0_run 17 = .ok (.iadd, 1) := by decide +kernel
theorem dX0_run_18 : decode cX0_run 18 = .ok (.istore 5, 2) := by decide +kernel
theorem dX0_run_20 : decode cX0_run 20 = .ok (.iload_n 3, 1) := by decide +kernel
theorem dX0_run_21 : decode cX0_run 21 = .ok (.tableswitch 210 10 24 #[75, 81, 102, 114, 128, 210, 210, 210, 210, 210, 141, 143, 161, 176, 197], 75) := by decide +kernel
theorem dX0_run_96 : decode cX0_run 96 = .ok (.aload_n 1, 1) := by decide +kernel
theorem dX0_run_97 : decode cX0_run 97 = .ok (.iload_n 2, 1) := by decide +kernel
theorem dX0_run_98 : decode cX0_run 98 = .ok (.invokevirtual 44, 3) := by decide +kernel
theorem dX0_run_101 : decode cX0_run 101 = .ok (.ireturn, 1) := by decide +kernel
theorem dX0_run_102 : decode cX0_run 102 = .ok (.aload_n 0, 1) := by decide +kernel
theorem dX0_run_103 : decode cX0_run 103 = .ok (.aload_n 1, 1) := by decide +kernel
theorem dX0_run_104 : decode cX0_run 104 = .ok (.iload_n 2, 1) := by decide +kernel
theorem dX0_run_105 : decode cX0_run 105 = .ok (.bipush 10, 2) := by decide +kernel
theorem dX0_run_107 : decode cX0_run 107 = .ok (.iload 5, 2) := by decide +kernel
theorem dX0_run_109 : decode cX0_run 109 = .ok (.invokevirtual 37, 3) := by decide +kernel
theorem dX0_run_112 : decode cX0_run 112 = .ok (.aload_n 0, 1) := by decide +kernel
theorem dX0_run_113 : decode cX0_run 113 = .ok (.aload_n 1, 1) := by decide +kernel
theorem dX0_run_114 : decode cX0_run 114 = .ok (.iload_n 2, 1) := by decide +kernel
theorem dX0_run_115 : decode cX0_run 115 = .ok (.iconst 1, 1) := by decide +kernel
theorem dX0_run_116 : decode cX0_run 116 = .ok (.iload 5, 2) := by decide +kernel
theorem dX0_run_118 : decode cX0_run 118 = .ok (.invokevirtual 19, 3) := by decide +kernel
theorem dX0_run_121 : decode cX0_run 121 = .ok (.iadd, 1) := by decide +kernel
theorem dX0_run_122 : decode cX0_run 122 = .ok (.ireturn, 1) := by decide +kernel
theorem dX0_run_123 : decode cX0_run 123 = .ok (.aload_n 0, 1) := by decide +kernel
theorem dX0_run_124 : decode cX0_run 124 = .ok (.aload_n 1, 1) := by decide +kernel
theorem dX0_run_125 : decode cX0_run 125 = .ok (.iload_n 2, 1) := by decide +kernel
theorem dX0_run_126 : decode cX0_run 126 = .ok (.bipush 11, 2) := by decide +kernel
theorem dX0_run_128 : decode cX0_run 128 = .ok (.iload 5, 2) := by decide +kernel
theorem dX0_run_130 : decode cX0_run 130 = .ok (.invokevirtual 37, 3) := by decide +kernel
theorem dX0_run_133 : decode cX0_run 133 = .ok (.ineg, 1) := by decide +kernel
theorem dX0_run_134 : decode cX0_run 134 = .ok (.ireturn, 1) := by decide +kernel
theorem dX0_run_135 : decode cX0_run 135 = .ok (.aload_n 0, 1) := by decide +kernel
theorem dX0_run_136 : decode cX0_run 136 = .ok (.aload_n 1, 1) := by decide +kernel
theorem dX0_run_137 : decode cX0_run 137 = .ok (.iload_n 2, 1) := by decide +kernel
theorem dX0_run_138 : decode cX0_run 138 = .ok (.bipush 10, 2) := by decide +kernel
theorem dX0_run_140 : decode cX0_run 140 = .ok (.iload 5, 2) := by decide +kernel
theorem dX0_run_142 : decode cX0_run 142 = .ok (.invokevirtual 37, 3) := by decide +kernel
theorem dX0_run_145 : decode cX0_run 145 = .ok (.bipush 100, 2) := by decide +kernel
theorem dX0_run_147 : decode cX0_run 147 = .ok (.isub, 1) := by decide +kernel
theorem dX0_run_148 : decode cX0_run 148 = .ok (.ireturn, 1) := by decide +kernel
theorem dX0_run_149 : decode cX0_run 149 = .ok (.iconst 2, 1) := by decide +kernel
theorem dX0_run_150 : decode cX0_run 150 = .ok (.aload_n 0, 1) := by decide +kernel
theorem dX0_run_151 : decode cX0_run 151 = .ok (.aload_n 1, 1) := by decide +kernel
theorem dX0_run_152 : decode cX0_run 152 = .ok (.iload_n 2, 1) := by decide +kernel
theorem dX0_run_153 : decode cX0_run 153 = .ok (.bipush 13, 2) := by decide +kernel
theorem dX0_run_155 : decode cX0_run 155 = .ok (.iload 5, 2) := by decide +kernel
theorem dX0_run_157 : decode cX0_run 157 = .ok (.invokevirtual 37, 3) := by decide +kernel
theorem dX0_run_160 : decode cX0_run 160 = .ok (.imul, 1) := by decide +kernel
theorem dX0_run_161 : decode cX0_run 161 = .ok (.ireturn, 1) := by decide +kernel
theorem dX0_run_162 : decode cX0_run 162 = .ok (.iload_n 2, 1) := by decide +kernel
theorem dX0_run_163 : decode cX0_run 163 = .ok (.ireturn, 1) := by decide +kernel
theorem dX0_run_164 : decode cX0_run 164 = .ok (.aload_n 0, 1) := by decide +kernel
theorem dX0_run_165 : decode cX0_run 165 = .ok (.aload_n 1, 1) := by decide +kernel
theorem dX0_run_166 : decode cX0_run 166 = .ok (.iload_n 2, 1) := by decide +kernel
theorem dX0_run_167 : decode cX0_run 167 = .ok (.bipush 20, 2) := by decide +kernel
theorem dX0_run_169 : decode cX0_run 169 = .ok (.iload 5, 2) := by decide +kernel
theorem dX0_run_171 : decode cX0_run 171 = .ok (.invokevirtual 37, 3) := by decide +kernel
theorem dX0_run_174 : decode cX0_run 174 = .ok (.aload_n 1, 1) := by decide +kernel
theorem dX0_run_175 : decode cX0_run 175 = .ok (.getfield 48, 3) := by decide +kernel
theorem dX0_run_178 : decode cX0_run 178 = .ok (.iload_n 2, 1) := by decide +kernel
theorem dX0_run_179 : decode cX0_run 179 = .ok (.iaload, 1) := by decide +kernel
theorem dX0_run_180 : decode cX0_run 180 = .ok (.iadd, 1) := by decide +kernel
theorem dX0_run_181 : decode cX0_run 181 = .ok (.ireturn, 1) := by decide +kernel
theorem dX0_run_182 : decode cX0_run 182 = .ok (.aload_n 0, 1) := by decide +kernel
theorem dX0_run_183 : decode cX0_run 183 = .ok (.aload_n 1, 1) := by decide +kernel
theorem dX0_run_184 : decode cX0_run 184 = .ok (.iload_n 2, 1) := by decide +kernel
theorem dX0_run_185 : decode cX0_run 185 = .ok (.bipush 21, 2) := by decide +kernel
theorem dX0_run_187 : decode cX0_run 187 = .ok (.iload 5, 2) := by decide +kernel
theorem dX0_run_189 : decode cX0_run 189 = .ok (.invokevirtual 37, 3) := by decide +kernel
theorem dX0_run_192 : decode cX0_run 192 = .ok (.sipush 1000, 3) := by decide +kernel
theorem dX0_run_195 : decode cX0_run 195 = .ok (.isub, 1) := by decide +kernel
theorem dX0_run_196 : decode cX0_run 196 = .ok (.ireturn, 1) := by decide +kernel
theorem dX0_run_197 : decode cX0_run 197 = .ok (.aload_n 0, 1) := by decide +kernel
theorem dX0_run_198 : decode cX0_run 198 = .ok (.aload_n 1, 1) := by decide +kernel
theorem dX0_run_199 : decode cX0_run 199 = .ok (.iload_n 2, 1) := by decide +kernel
theorem dX0_run_200 : decode cX0_run 200 = .ok (.bipush 20, 2) := by decide +kernel
theorem dX0_run_202 : decode cX0_run 202 = .ok (.iload 5, 2) := by decide +kernel
theorem dX0_run_204 : decode cX0_run 204 = .ok (.invokevirtual 37, 3) := by decide +kernel
theorem dX0_run_207 : decode cX0_run 207 = .ok (.aload_n 0, 1) := by decide +kernel
theorem dX0_run_208 : decode cX0_run 208 = .ok (.aload_n 1, 1) := by decide +kernel
theorem dX0_run_209 : decode cX0_run 209 = .ok (.iload_n 2, 1) := by decide +kernel
theorem dX0_run_210 : decode cX0_run 210 = .ok (.iconst 0, 1) := by decide +kernel
theorem dX0_run_211 : decode cX0_run 211 = .ok (.iload 5, 2) := by decide +kernel
theorem dX0_run_213 : decode cX0_run 213 = .ok (.invokevirtual 19, 3) := by decide +kernel
theorem dX0_run_216 : decode cX0_run 216 = .ok (.isub, 1) := by decide +kernel
theorem dX0_run_217 : decode cX0_run 217 = .ok (.ireturn, 1) := by decide +kernel
theorem dX0_run_218 : decode cX0_run 218 = .ok (.iconst 2, 1) := by decide +kernel
theorem dX0_run_219 : decode cX0_run 219 = .ok (.aload_n 0, 1) := by decide +kernel
theorem dX0_run_220 : decode cX0_run 220 = .ok (.aload_n 1, 1) := by decide +kernel
theorem dX0_run_221 : decode cX0_run 221 = .ok (.iload_n 2, 1) := by decide +kernel
theorem dX0_run_222 : decode cX0_run 222 = .ok (.bipush 21, 2) := by decide +kernel
theorem dX0_run_224 : decode cX0_run 224 = .ok (.iload 5, 2) := by decide +kernel
theorem dX0_run_226 : decode cX0_run 226 = .ok (.invokevirtual 37, 3) := by decide +kernel
theorem dX0_run_229 : decode cX0_run 229 = .ok (.imul, 1) := by decide +kernel
theorem dX0_run_230 : decode cX0_run 230 = .ok (.ireturn, 1) := by decide +kernel
theorem dX0_run_231 : decode cX0_run 231 = .ok (.iconst 0, 1) := by decide +kernel
theorem dX0_run_232 : decode cX0_run 232 = .ok (.ireturn, 1) := by decide +kernel
def wX0_run : Nat → zM → Nat → Nat → Int32 → Int32 → Int32 → (Int32 → zM → Prop) → Prop
  | 0, _, _, _, _, _, _, _ => False
  | dd + 1, M, o0, o1, x2, x3, x4, Q =>
    ((x4 < (16 : Int32)) → (
    wX0_leave M o0 x3 (fun M7 =>
    ((x3.toInt < 10 ∨ 24 < x3.toInt) → (
    Q (0 : Int32) M7)) ∧
    ((x3.toInt = 10) → (
    wX2_now M7 o1 x2 (fun r8 =>
    Q r8 M7))) ∧
    ((x3.toInt = 11) → (
    wX0_run dd M7 o0 o1 x2 (10 : Int32) (x4 + (1 : Int32)) (fun r9 M10 =>
    wX0_answer (wX0_run dd) M10 o0 o1 x2 (1 : Int32) (x4 + (1 : Int32)) (fun r11 M12 =>
    Q (r9 + r11) M12)))) ∧
    ((x3.toInt = 12) → (
    wX0_run dd M7 o0 o1 x2 (11 : Int32) (x4 + (1 : Int32)) (fun r13 M14 =>
    Q (-r13) M14))) ∧
    ((x3.toInt = 13) → (
    wX0_run dd M7 o0 o1 x2 (10 : Int32) (x4 + (1 : Int32)) (fun r15 M16 =>
    Q (r15 - (100 : Int32)) M16))) ∧
    ((x3.toInt = 14) → (
    wX0_run dd M7 o0 o1 x2 (13 : Int32) (x4 + (1 : Int32)) (fun r17 M18 =>
    Q ((2 : Int32) * r17) M18))) ∧
    ((x3.toInt = 15) → (
    Q (0 : Int32) M7)) ∧
    ((x3.toInt = 16) → (
    Q (0 : Int32) M7)) ∧
    ((x3.toInt = 17) → (
    Q (0 : Int32) M7)) ∧
    ((x3.toInt = 18) → (
    Q (0 : Int32) M7)) ∧
    ((x3.toInt = 19) → (
    Q (0 : Int32) M7)) ∧
    ((x3.toInt = 20) → (
    Q x2 M7)) ∧
    ((x3.toInt = 21) → (
    wX0_run dd M7 o0 o1 x2 (20 : Int32) (x4 + (1 : Int32)) (fun r19 M20 =>
    vp_in x2 12 ∧
    Q (r19 + (M20 (o1 + 4) x2.toNatClampNeg)) M20))) ∧
    ((x3.toInt = 22) → (
    wX0_run dd M7 o0 o1 x2 (21 : Int32) (x4 + (1 : Int32)) (fun r21 M22 =>
    Q (r21 - (1000 : Int32)) M22))) ∧
    ((x3.toInt = 23) → (
    wX0_run dd M7 o0 o1 x2 (20 : Int32) (x4 + (1 : Int32)) (fun r23 M24 =>
    wX0_answer (wX0_run dd) M24 o0 o1 x2 (0 : Int32) (x4 + (1 : Int32)) (fun r25 M26 =>
    Q (r23 - r25) M26)))) ∧
    ((x3.toInt = 24) → (
    wX0_run dd M7 o0 o1 x2 (21 : Int32) (x4 + (1 : Int32)) (fun r27 M28 =>
    Q ((2 : Int32) * r27) M28)))))) ∧
    ((¬ x4 < (16 : Int32)) → (
    Q (0 : Int32) M))
set_option maxHeartbeats 4000000 in
set_option maxRecDepth 100000 in
theorem kX0_run {l : Launch} {D : va_G} {Y : zY} {ad kd : Nat → Nat} {RL : List Nat} {J : zL} {o0 o1 : Nat} (h_o0 : kd o0 = 0) (h_o1 : kd o1 = 2) : ∀ (dd : Nat) {M : zM} {x2 x3 x4 : Int32} {Q : Int32 → zM → Prop}, wX0_run dd M o0 o1 x2 x3 x4 Q → zCi l yX0_run wsX0_run (rmR dd) [.ref (ad o0), .ref (ad o1), .int x2, .int x3, .int x4] D Y ad kd RL M J (fun r M' J' => Q r M' ∧ J = J') := by
  intro dd
  induction dd with
  | zero => intro M x2 x3 x4 Q hq; exact hq.elim
  | succ dd ih =>
    intro M x2 x3 x4 Q hq
    refine z_meti (cc := cX0_run) (maxL := 6) (ret := (some .int)) (by decide) rfl (Nat.le_of_ble_eq_true rfl) ?_
    intro p e s m below meth c ls A ar QE hQE hx hb hr hml hown hts hlk hw hl
    have hown : s.vm.findClass RX0 = some m.cls := hown
    have hl : lv_has ls 6 [(0, .ref (ad o0)), (1, .ref (ad o1)), (2, .int x2), (3, .int x3), (4, .int x4)] := hl
    have hC := hw.2.2.2.2.2.1
    have g2 : ∀ w ∈ wsX20, w.before ar s = true := (fun w h => hts w (List.mem_cons_of_mem _ (List.mem_append_left _ (List.mem_append_right _ h))))
    have q1 := hts _ (List.mem_of_getElem? (i := 1) rfl)
    unfold wX0_run at hq
    refine lv_iload hx hb dX0_run_0 (lv_at hl 4 rfl) ?_
    refine lv_bipush (v := (16 : Int32)) hx hb dX0_run_2 (by decide) ?_
    refine lv_icmp_lt (tgt := 9) hx hb dX0_run_4 (by decide) (fun hc => ?_) (fun hc => ?_)
    · have hq := hq.1 hc
      refine lv_aload_n hx hb dX0_run_9 rfl (lv_at hl 0 rfl) ?_
      refine lv_iload_n hx hb dX0_run_10 rfl (lv_at hl 3 rfl) ?_
      refine z_cvv ⟨hx, hb, hml, hown, hts⟩ hw h_o0 (kX0_leave h_o0 hq) (by decide) rfl (cwV 1 hts gX0_run_X0_leave rfl rfl rfl (by decide +kernel) ⟨by simp [rmR, rmA, rmX0_leave, rmX2_now] <;> omega, by simp [rmR, rmA, rmX0_leave, rmX2_now] <;> omega⟩) rfl hl.1 rfl (Nat.le_of_ble_eq_true rfl) dX0_run_11 ⟨Nat.zero_le _, Nat.zero_le _⟩ (fun M7 J0 H locs hq hw => ?_)
      obtain ⟨hq, rfl⟩ := hq
      refine lv_iload hx hb dX0_run_14 (lv_at hl 4 rfl) ?_
      refine lv_iconst (v := (1 : Int32)) hx hb dX0_run_16 (by decide) ?_
      refine lv_iadd hx hb dX0_run_17 ?_
      refine lv_istore (lv' := [(5, .int (x4 + (1 : Int32))), (0, .ref (ad o0)), (1, .ref (ad o1)), (2, .int x2), (3, .int x3), (4, .int x4)]) hx hb dX0_run_18 hl (by decide) rfl (fun ls hl => ?_)
      refine lv_iload_n hx hb dX0_run_20 rfl (lv_at hl 4 rfl) ?_
      by_cases hsw : x3.toInt < 10 ∨ 24 < x3.toInt
      · refine lv_tableOut (tgt := 231) hx hb dX0_run_21 hsw (by decide) ?_
        have hq := hq.1 hsw
        refine lv_iconst (v := (0 : Int32)) hx hb dX0_run_231 (by decide) ?_
        exact z_iret hQE hx hb hr hlk hw dX0_run_232 ⟨hq, rfl⟩
      · have hq := hq.2
        rcases (show x3.toInt = 10 ∨ x3.toInt = 11 ∨ x3.toInt = 12 ∨ x3.toInt = 13 ∨ x3.toInt = 14 ∨ x3.toInt = 15 ∨ x3.toInt = 16 ∨ x3.toInt = 17 ∨ x3.toInt = 18 ∨ x3.toInt = 19 ∨ x3.toInt = 20 ∨ x3.toInt = 21 ∨ x3.toInt = 22 ∨ x3.toInt = 23 ∨ x3.toInt = 24 by omega) with hs | hs | hs | hs | hs | hs | hs | hs | hs | hs | hs | hs | hs | hs | hs
        · refine lv_tableIn (off := 75) (tgt := 96) hx hb dX0_run_21 (by omega) (by omega) (by rw [hs]; rfl) (by decide) ?_
          have hq := hq.1 hs
          refine lv_aload_n hx hb dX0_run_96 rfl (lv_at hl 2 rfl) ?_
          refine lv_iload_n hx hb dX0_run_97 rfl (lv_at hl 3 rfl) ?_
          refine z_cvi ⟨hx, hb, hml, hown, hts⟩ hw h_o1 (kX2_now h_o1 hq) (by decide) rfl (cwV 1 hts gX0_run_X2_now rfl rfl rfl (by decide +kernel) ⟨by simp [rmR, rmA, rmX0_leave, rmX2_now] <;> omega, by simp [rmR, rmA, rmX0_leave, rmX2_now] <;> omega⟩) rfl hl.1 rfl (Nat.le_of_ble_eq_true rfl) dX0_run_98 ⟨Nat.zero_le _, Nat.zero_le _⟩ (fun r8 M0 J0 H locs hq hw => ?_)
          obtain ⟨hq, rfl, rfl⟩ := hq
          exact z_iret hQE hx hb hr hlk hw dX0_run_101 ⟨hq, rfl⟩
        · refine lv_tableIn (off := 81) (tgt := 102) hx hb dX0_run_21 (by omega) (by omega) (by rw [hs]; rfl) (by decide) ?_
          have hq := hq.2.1 hs
          refine lv_aload_n hx hb dX0_run_102 rfl (lv_at hl 1 rfl) ?_
          refine lv_aload_n hx hb dX0_run_103 rfl (lv_at hl 2 rfl) ?_
          refine lv_iload_n hx hb dX0_run_104 rfl (lv_at hl 3 rfl) ?_
          refine lv_bipush (v := (10 : Int32)) hx hb dX0_run_105 (by decide) ?_
          refine lv_iload hx hb dX0_run_107 (lv_at hl 0 rfl) ?_
          refine z_cvi ⟨hx, hb, hml, hown, hts⟩ hw h_o0 (ih  hq) (by decide) rfl (cwV 4 hts gX0_run_X0_run rfl rfl rfl (by decide +kernel) ⟨by simp [rmR, rmA, rmX0_leave, rmX2_now] <;> omega, by simp [rmR, rmA, rmX0_leave, rmX2_now] <;> omega⟩) rfl hl.1 rfl (Nat.le_of_ble_eq_true rfl) dX0_run_109 ⟨Nat.zero_le _, Nat.zero_le _⟩ (fun r9 M10 J0 H locs hq hw => ?_)
          obtain ⟨hq, rfl⟩ := hq
          refine lv_aload_n hx hb dX0_run_112 rfl (lv_at hl 1 rfl) ?_
          refine lv_aload_n hx hb dX0_run_113 rfl (lv_at hl 2 rfl) ?_
          refine lv_iload_n hx hb dX0_run_114 rfl (lv_at hl 3 rfl) ?_
          refine lv_iconst (v := (1 : Int32)) hx hb dX0_run_115 (by decide) ?_
          refine lv_iload hx hb dX0_run_116 (lv_at hl 0 rfl) ?_
          refine z_cvi ⟨hx, hb, hml, hown, hts⟩ hw h_o0 (kX0_answer dd (fun hq => ih hq) h_o0 h_o1 hq) (by decide) rfl (cwV 4 hts gX0_run_X0_answer rfl rfl rfl (by decide +kernel) ⟨by simp [rmR, rmA, rmX0_leave, rmX2_now] <;> omega, by simp [rmR, rmA, rmX0_leave, rmX2_now] <;> omega⟩) rfl hl.1 rfl (Nat.le_of_ble_eq_true rfl) dX0_run_118 ⟨Nat.zero_le _, Nat.zero_le _⟩ (fun r11 M12 J0 H locs hq hw => ?_)
          obtain ⟨hq, rfl⟩ := hq
          refine lv_iadd hx hb dX0_run_121 ?_
          exact z_iret hQE hx hb hr hlk hw dX0_run_122 ⟨hq, rfl⟩
        · refine lv_tableIn (off := 102) (tgt := 123) hx hb dX0_run_21 (by omega) (by omega) (by rw [hs]; rfl) (by decide) ?_
          have hq := hq.2.2.1 hs
          refine lv_aload_n hx hb dX0_run_123 rfl (lv_at hl 1 rfl) ?_
          refine lv_aload_n hx hb dX0_run_124 rfl (lv_at hl 2 rfl) ?_
          refine lv_iload_n hx hb dX0_run_125 rfl (lv_at hl 3 rfl) ?_
          refine lv_bipush (v := (11 : Int32)) hx hb dX0_run_126 (by decide) ?_
          refine lv_iload hx hb dX0_run_128 (lv_at hl 0 rfl) ?_
          refine z_cvi ⟨hx, hb, hml, hown, hts⟩ hw h_o0 (ih  hq) (by decide) rfl (cwV 4 hts gX0_run_X0_run rfl rfl rfl (by decide +kernel) ⟨by simp [rmR, rmA, rmX0_leave, rmX2_now] <;> omega, by simp [rmR, rmA, rmX0_leave, rmX2_now] <;> omega⟩) rfl hl.1 rfl (Nat.le_of_ble_eq_true rfl) dX0_run_130 ⟨Nat.zero_le _, Nat.zero_le _⟩ (fun r13 M14 J0 H locs hq hw => ?_)
          obtain ⟨hq, rfl⟩ := hq
          refine lv_ineg hx hb dX0_run_133 ?_
          exact z_iret hQE hx hb hr hlk hw dX0_run_134 ⟨hq, rfl⟩
        · refine lv_tableIn (off := 114) (tgt := 135) hx hb dX0_run_21 (by omega) (by omega) (by rw [hs]; rfl) (by decide) ?_
          have hq := hq.2.2.2.1 hs
          refine lv_aload_n hx hb dX0_run_135 rfl (lv_at hl 1 rfl) ?_
          refine lv_aload_n hx hb dX0_run_136 rfl (lv_at hl 2 rfl) ?_
          refine lv_iload_n hx hb dX0_run_137 rfl (lv_at hl 3 rfl) ?_
          refine lv_bipush (v := (10 : Int32)) hx hb dX0_run_138 (by decide) ?_
          refine lv_iload hx hb dX0_run_140 (lv_at hl 0 rfl) ?_
          refine z_cvi ⟨hx, hb, hml, hown, hts⟩ hw h_o0 (ih  hq) (by decide) rfl (cwV 4 hts gX0_run_X0_run rfl rfl rfl (by decide +kernel) ⟨by simp [rmR, rmA, rmX0_leave, rmX2_now] <;> omega, by simp [rmR, rmA, rmX0_leave, rmX2_now] <;> omega⟩) rfl hl.1 rfl (Nat.le_of_ble_eq_true rfl) dX0_run_142 ⟨Nat.zero_le _, Nat.zero_le _⟩ (fun r15 M16 J0 H locs hq hw => ?_)
          obtain ⟨hq, rfl⟩ := hq
          refine lv_bipush (v := (100 : Int32)) hx hb dX0_run_145 (by decide) ?_
          refine lv_isub hx hb dX0_run_147 ?_
          exact z_iret hQE hx hb hr hlk hw dX0_run_148 ⟨hq, rfl⟩
        · refine lv_tableIn (off := 128) (tgt := 149) hx hb dX0_run_21 (by omega) (by omega) (by rw [hs]; rfl) (by decide) ?_
          have hq := hq.2.2.2.2.1 hs
          refine lv_iconst (v := (2 : Int32)) hx hb dX0_run_149 (by decide) ?_
          refine lv_aload_n hx hb dX0_run_150 rfl (lv_at hl 1 rfl) ?_
          refine lv_aload_n hx hb dX0_run_151 rfl (lv_at hl 2 rfl) ?_
          refine lv_iload_n hx hb dX0_run_152 rfl (lv_at hl 3 rfl) ?_
          refine lv_bipush (v := (13 : Int32)) hx hb dX0_run_153 (by decide) ?_
          refine lv_iload hx hb dX0_run_155 (lv_at hl 0 rfl) ?_
          refine z_cvi ⟨hx, hb, hml, hown, hts⟩ hw h_o0 (ih  hq) (by decide) rfl (cwV 4 hts gX0_run_X0_run rfl rfl rfl (by decide +kernel) ⟨by simp [rmR, rmA, rmX0_leave, rmX2_now] <;> omega, by simp [rmR, rmA, rmX0_leave, rmX2_now] <;> omega⟩) rfl hl.1 rfl (Nat.le_of_ble_eq_true rfl) dX0_run_157 ⟨Nat.zero_le _, Nat.zero_le _⟩ (fun r17 M18 J0 H locs hq hw => ?_)
          obtain ⟨hq, rfl⟩ := hq
          refine lv_imul hx hb dX0_run_160 ?_
          exact z_iret hQE hx hb hr hlk hw dX0_run_161 ⟨hq, rfl⟩
        · refine lv_tableIn (off := 210) (tgt := 231) hx hb dX0_run_21 (by omega) (by omega) (by rw [hs]; rfl) (by decide) ?_
          have hq := hq.2.2.2.2.2.1 hs
          refine lv_iconst (v := (0 : Int32)) hx hb dX0_run_231 (by decide) ?_
          exact z_iret hQE hx hb hr hlk hw dX0_run_232 ⟨hq, rfl⟩
        · refine lv_tableIn (off := 210) (tgt := 231) hx hb dX0_run_21 (by omega) (by omega) (by rw [hs]; rfl) (by decide) ?_
          have hq := hq.2.2.2.2.2.2.1 hs
          refine lv_iconst (v := (0 : Int32)) hx hb dX0_run_231 (by decide) ?_
          exact z_iret hQE hx hb hr hlk hw dX0_run_232 ⟨hq, rfl⟩
        · refine lv_tableIn (off := 210) (tgt := 231) hx hb dX0_run_21 (by omega) (by omega) (by rw [hs]; rfl) (by decide) ?_
          have hq := hq.2.2.2.2.2.2.2.1 hs
          refine lv_iconst (v := (0 : Int32)) hx hb dX0_run_231 (by decide) ?_
          exact z_iret hQE hx hb hr hlk hw dX0_run_232 ⟨hq, rfl⟩
        · refine lv_tableIn (off := 210) (tgt := 231) hx hb dX0_run_21 (by omega) (by omega) (by rw [hs]; rfl) (by decide) ?_
          have hq := hq.2.2.2.2.2.2.2.2.1 hs
          refine lv_iconst (v := (0 : Int32)) hx hb dX0_run_231 (by decide) ?_
          exact z_iret hQE hx hb hr hlk hw dX0_run_232 ⟨hq, rfl⟩
        · refine lv_tableIn (off := 210) (tgt := 231) hx hb dX0_run_21 (by omega) (by omega) (by rw [hs]; rfl) (by decide) ?_
          have hq := hq.2.2.2.2.2.2.2.2.2.1 hs
          refine lv_iconst (v := (0 : Int32)) hx hb dX0_run_231 (by decide) ?_
          exact z_iret hQE hx hb hr hlk hw dX0_run_232 ⟨hq, rfl⟩
        · refine lv_tableIn (off := 141) (tgt := 162) hx hb dX0_run_21 (by omega) (by omega) (by rw [hs]; rfl) (by decide) ?_
          have hq := hq.2.2.2.2.2.2.2.2.2.2.1 hs
          refine lv_iload_n hx hb dX0_run_162 rfl (lv_at hl 3 rfl) ?_
          exact z_iret hQE hx hb hr hlk hw dX0_run_163 ⟨hq, rfl⟩
        · refine lv_tableIn (off := 143) (tgt := 164) hx hb dX0_run_21 (by omega) (by omega) (by rw [hs]; rfl) (by decide) ?_
          have hq := hq.2.2.2.2.2.2.2.2.2.2.2.1 hs
          refine lv_aload_n hx hb dX0_run_164 rfl (lv_at hl 1 rfl) ?_
          refine lv_aload_n hx hb dX0_run_165 rfl (lv_at hl 2 rfl) ?_
          refine lv_iload_n hx hb dX0_run_166 rfl (lv_at hl 3 rfl) ?_
          refine lv_bipush (v := (20 : Int32)) hx hb dX0_run_167 (by decide) ?_
          refine lv_iload hx hb dX0_run_169 (lv_at hl 0 rfl) ?_
          refine z_cvi ⟨hx, hb, hml, hown, hts⟩ hw h_o0 (ih  hq) (by decide) rfl (cwV 4 hts gX0_run_X0_run rfl rfl rfl (by decide +kernel) ⟨by simp [rmR, rmA, rmX0_leave, rmX2_now] <;> omega, by simp [rmR, rmA, rmX0_leave, rmX2_now] <;> omega⟩) rfl hl.1 rfl (Nat.le_of_ble_eq_true rfl) dX0_run_171 ⟨Nat.zero_le _, Nat.zero_le _⟩ (fun r19 M20 J0 H locs hq hw => ?_)
          obtain ⟨hq, rfl⟩ := hq
          refine lv_aload_n hx hb dX0_run_174 rfl (lv_at hl 2 rfl) ?_
          refine zg2_slews hx hb g2 hown hw h_o1 q1 dX0_run_175 ?_
          refine lv_iload_n hx hb dX0_run_178 rfl (lv_at hl 3 rfl) ?_
          obtain ⟨hi, hq⟩ := hq
          refine z_iald (n := 12) hx hb hw (zk_2_4 hC h_o1) hi dX0_run_179 ?_
          refine lv_iadd hx hb dX0_run_180 ?_
          exact z_iret hQE hx hb hr hlk hw dX0_run_181 ⟨hq, rfl⟩
        · refine lv_tableIn (off := 161) (tgt := 182) hx hb dX0_run_21 (by omega) (by omega) (by rw [hs]; rfl) (by decide) ?_
          have hq := hq.2.2.2.2.2.2.2.2.2.2.2.2.1 hs
          refine lv_aload_n hx hb dX0_run_182 rfl (lv_at hl 1 rfl) ?_
          refine lv_aload_n hx hb dX0_run_183 rfl (lv_at hl 2 rfl) ?_
          refine lv_iload_n hx hb dX0_run_184 rfl (lv_at hl 3 rfl) ?_
          refine lv_bipush (v := (21 : Int32)) hx hb dX0_run_185 (by decide) ?_
          refine lv_iload hx hb dX0_run_187 (lv_at hl 0 rfl) ?_
          refine z_cvi ⟨hx, hb, hml, hown, hts⟩ hw h_o0 (ih  hq) (by decide) rfl (cwV 4 hts gX0_run_X0_run rfl rfl rfl (by decide +kernel) ⟨by simp [rmR, rmA, rmX0_leave, rmX2_now] <;> omega, by simp [rmR, rmA, rmX0_leave, rmX2_now] <;> omega⟩) rfl hl.1 rfl (Nat.le_of_ble_eq_true rfl) dX0_run_189 ⟨Nat.zero_le _, Nat.zero_le _⟩ (fun r21 M22 J0 H locs hq hw => ?_)
          obtain ⟨hq, rfl⟩ := hq
          refine lv_sipush (v := (1000 : Int32)) hx hb dX0_run_192 (by decide) ?_
          refine lv_isub hx hb dX0_run_195 ?_
          exact z_iret hQE hx hb hr hlk hw dX0_run_196 ⟨hq, rfl⟩
        · refine lv_tableIn (off := 176) (tgt := 197) hx hb dX0_run_21 (by omega) (by omega) (by rw [hs]; rfl) (by decide) ?_
          have hq := hq.2.2.2.2.2.2.2.2.2.2.2.2.2.1 hs
          refine lv_aload_n hx hb dX0_run_197 rfl (lv_at hl 1 rfl) ?_
          refine lv_aload_n hx hb dX0_run_198 rfl (lv_at hl 2 rfl) ?_
          refine lv_iload_n hx hb dX0_run_199 rfl (lv_at hl 3 rfl) ?_
          refine lv_bipush (v := (20 : Int32)) hx hb dX0_run_200 (by decide) ?_
          refine lv_iload hx hb dX0_run_202 (lv_at hl 0 rfl) ?_
          refine z_cvi ⟨hx, hb, hml, hown, hts⟩ hw h_o0 (ih  hq) (by decide) rfl (cwV 4 hts gX0_run_X0_run rfl rfl rfl (by decide +kernel) ⟨by simp [rmR, rmA, rmX0_leave, rmX2_now] <;> omega, by simp [rmR, rmA, rmX0_leave, rmX2_now] <;> omega⟩) rfl hl.1 rfl (Nat.le_of_ble_eq_true rfl) dX0_run_204 ⟨Nat.zero_le _, Nat.zero_le _⟩ (fun r23 M24 J0 H locs hq hw => ?_)
          obtain ⟨hq, rfl⟩ := hq
          refine lv_aload_n hx hb dX0_run_207 rfl (lv_at hl 1 rfl) ?_
          refine lv_aload_n hx hb dX0_run_208 rfl (lv_at hl 2 rfl) ?_
          refine lv_iload_n hx hb dX0_run_209 rfl (lv_at hl 3 rfl) ?_
          refine lv_iconst (v := (0 : Int32)) hx hb dX0_run_210 (by decide) ?_
          refine lv_iload hx hb dX0_run_211 (lv_at hl 0 rfl) ?_
          refine z_cvi ⟨hx, hb, hml, hown, hts⟩ hw h_o0 (kX0_answer dd (fun hq => ih hq) h_o0 h_o1 hq) (by decide) rfl (cwV 4 hts gX0_run_X0_answer rfl rfl rfl (by decide +kernel) ⟨by simp [rmR, rmA, rmX0_leave, rmX2_now] <;> omega, by simp [rmR, rmA, rmX0_leave, rmX2_now] <;> omega⟩) rfl hl.1 rfl (Nat.le_of_ble_eq_true rfl) dX0_run_213 ⟨Nat.zero_le _, Nat.zero_le _⟩ (fun r25 M26 J0 H locs hq hw => ?_)
          obtain ⟨hq, rfl⟩ := hq
          refine lv_isub hx hb dX0_run_216 ?_
          exact z_iret hQE hx hb hr hlk hw dX0_run_217 ⟨hq, rfl⟩
        · refine lv_tableIn (off := 197) (tgt := 218) hx hb dX0_run_21 (by omega) (by omega) (by rw [hs]; rfl) (by decide) ?_
          have hq := hq.2.2.2.2.2.2.2.2.2.2.2.2.2.2 hs
          refine lv_iconst (v := (2 : Int32)) hx hb dX0_run_218 (by decide) ?_
          refine lv_aload_n hx hb dX0_run_219 rfl (lv_at hl 1 rfl) ?_
          refine lv_aload_n hx hb dX0_run_220 rfl (lv_at hl 2 rfl) ?_
          refine lv_iload_n hx hb dX0_run_221 rfl (lv_at hl 3 rfl) ?_
          refine lv_bipush (v := (21 : Int32)) hx hb dX0_run_222 (by decide) ?_
          refine lv_iload hx hb dX0_run_224 (lv_at hl 0 rfl) ?_
          refine z_cvi ⟨hx, hb, hml, hown, hts⟩ hw h_o0 (ih  hq) (by decide) rfl (cwV 4 hts gX0_run_X0_run rfl rfl rfl (by decide +kernel) ⟨by simp [rmR, rmA, rmX0_leave, rmX2_now] <;> omega, by simp [rmR, rmA, rmX0_leave, rmX2_now] <;> omega⟩) rfl hl.1 rfl (Nat.le_of_ble_eq_true rfl) dX0_run_226 ⟨Nat.zero_le _, Nat.zero_le _⟩ (fun r27 M28 J0 H locs hq hw => ?_)
          obtain ⟨hq, rfl⟩ := hq
          refine lv_imul hx hb dX0_run_229 ?_
          exact z_iret hQE hx hb hr hlk hw dX0_run_230 ⟨hq, rfl⟩
    · have hq := hq.2 hc
      refine lv_iconst (v := (0 : Int32)) hx hb dX0_run_7 (by decide) ?_
      exact z_iret hQE hx hb hr hlk hw dX0_run_8 ⟨hq, rfl⟩
set_option maxRecDepth 20000 in
theorem ggX0_begin_X0_answer : GoodIn wsX0_begin wsX0_answer := goodIn_r _ [6, 7, 8, 9, 10, 11, 12, 5, 13, 14, 15, 16, 17, 18, 1, 19, 20, 21, 22, 23, 24, 25, 26, 27, 28, 29, 30, 31, 2, 3, 4, 34, 35, 36, 37, 38, 39, 32, 33] (by decide +kernel) (by decide +kernel)
set_option maxRecDepth 20000 in
theorem gX0_begin_X0_answer : GoodIn wsX0_begin (wsV RX0 19 RX0 yX0_answer wsX0_answer) := goodIn_app (goodIn_of _ (by decide +kernel)) ggX0_begin_X0_answer
theorem dX0_begin_0 : decode cX0_begin 0 = .ok (.aload_n 0, 1) := by decide +kernel
theorem dX0_begin_1 : decode cX0_begin 1 = .ok (.iconst 0, 1) := by decide +kernel
theorem dX0_begin_2 : decode cX0_begin 2 = .ok (.putfield 15, 3) := by decide +kernel
theorem dX0_begin_5 : decode cX0_begin 5 = .ok (.aload_n 0, 1) := by decide +kernel
theorem dX0_begin_6 : decode cX0_begin 6 = .ok (.aload_n 1, 1) := by decide +kernel
theorem dX0_begin_7 : decode cX0_begin 7 = .ok (.iload_n 2, 1) := by decide +kernel
theorem dX0_begin_8 : decode cX0_begin 8 = .ok (.iload_n 3, 1) := by decide +kernel
theorem dX0_begin_9 : decode cX0_begin 9 = .ok (.iconst 0, 1) := by decide +kernel
theorem dX0_begin_10 : decode cX0_begin 10 = .ok (.invokevirtual 19, 3) := by decide +kernel
theorem dX0_begin_13 : decode cX0_begin 13 = .ok (.ireturn, 1) := by decide +kernel
def rmX0_begin : Room := { frames := 30, cells := 0, slots := 0, locals := 1487 }
def wX0_begin (M : zM) (o0 : Nat) (o1 : Nat) (x2 : Int32) (x3 : Int32) (Q : Int32 → zM → Prop) : Prop :=
    ∀ M6 : zM, M6 = va_up M o0 (upd (M o0) 0 (0 : Int32)) →
    wX0_answer (wX0_run 12) M6 o0 o1 x2 x3 (0 : Int32) (fun r7 M8 =>
    Q r7 M8)
set_option maxHeartbeats 4000000 in
set_option maxRecDepth 100000 in
theorem kX0_begin {l : Launch} {D : va_G} {Y : zY} {ad kd : Nat → Nat} {RL : List Nat} {M : zM} {J : zL} {o0 : Nat} {o1 : Nat} {x2 : Int32} {x3 : Int32} (h_o0 : kd o0 = 0) (h_o1 : kd o1 = 2) {Q : Int32 → zM → Prop} (hq : wX0_begin M o0 o1 x2 x3 Q) : zCi l yX0_begin wsX0_begin rmX0_begin [.ref (ad o0), .ref (ad o1), .int x2, .int x3] D Y ad kd RL M J (fun r M' J' => Q r M' ∧ J = J') := by
  refine z_meti (cc := cX0_begin) (maxL := 4) (ret := (some .int)) (by decide) rfl (Nat.le_of_ble_eq_true rfl) ?_
  intro p e s m below meth c ls A ar QE hQE hx hb hr hml hown hts hlk hw hl
  have hown : s.vm.findClass RX0 = some m.cls := hown
  have hl : lv_has ls 4 [(0, .ref (ad o0)), (1, .ref (ad o1)), (2, .int x2), (3, .int x3)] := hl
  have hC := hw.2.2.2.2.2.1
  have g0 : ∀ w ∈ wsX00, w.before ar s = true := (fun w h => hts w (List.mem_cons_of_mem _ (List.mem_append_left _ (List.mem_append_right _ h))))
  have q1 := hts _ (List.mem_of_getElem? (i := 1) rfl)
  unfold wX0_begin at hq
  refine lv_aload_n hx hb dX0_begin_0 rfl (lv_at hl 0 rfl) ?_
  refine lv_iconst (v := (0 : Int32)) hx hb dX0_begin_1 (by decide) ?_
  refine zp0_left hx hb g0 hown hw h_o0 q1 dX0_begin_2 (fun H locs hw => ?_)
  obtain ⟨M6, e_M6⟩ : ∃ y : zM, y = va_up M o0 (upd (M o0) 0 (0 : Int32)) := ⟨_, rfl⟩
  rw [← e_M6] at hw
  have hq := hq M6 e_M6
  refine lv_aload_n hx hb dX0_begin_5 rfl (lv_at hl 0 rfl) ?_
  refine lv_aload_n hx hb dX0_begin_6 rfl (lv_at hl 1 rfl) ?_
  refine lv_iload_n hx hb dX0_begin_7 rfl (lv_at hl 2 rfl) ?_
  refine lv_iload_n hx hb dX0_begin_8 rfl (lv_at hl 3 rfl) ?_
  refine lv_iconst (v := (0 : Int32)) hx hb dX0_begin_9 (by decide) ?_
  refine z_cvi ⟨hx, hb, hml, hown, hts⟩ hw h_o0 (kX0_answer 12 (fun hq => kX0_run h_o0 h_o1 12 hq) h_o0 h_o1 hq) (by decide) rfl (cwV 4 hts gX0_begin_X0_answer rfl rfl rfl (by decide +kernel) ⟨Nat.le_of_ble_eq_true rfl, Nat.le_of_ble_eq_true rfl⟩) rfl hl.1 rfl (Nat.le_of_ble_eq_true rfl) dX0_begin_10 ⟨Nat.zero_le _, Nat.zero_le _⟩ (fun r7 M8 J0 H locs hq hw => ?_)
  obtain ⟨hq, rfl⟩ := hq
  exact z_iret hQE hx hb hr hlk hw dX0_begin_13 ⟨hq, rfl⟩
theorem dX3_isMissing_0 : decode cX3_isMissing 0 = .ok (.aload_n 0, 1) := by decide +kernel
theorem dX3_isMissing_1 : decode cX3_isMissing 1 = .ok (.getfield 11, 3) := by decide +kernel
theorem dX3_isMissing_4 : decode cX3_isMissing 4 = .ok (.iconst (-1), 1) := by decide +kernel
theorem dX3_isMissing_5 : decode cX3_isMissing 5 = .ok (.if_icmp .ne 7, 3) := by decide +kernel
theorem dX3_isMissing_8 : decode cX3_isMissing 8 = .ok (.iconst 1, 1) := by decide +kernel
theorem dX3_isMissing_9 : decode cX3_isMissing 9 = .ok (.goto 4, 3) := by decide +kernel
theorem dX3_isMissing_12 : decode cX3_isMissing 12 = .ok (.iconst 0, 1) := by decide +kernel
theorem dX3_isMissing_13 : decode cX3_isMissing 13 = .ok (.ireturn, 1) := by decide +kernel
def rmX3_isMissing : Room := { frames := 0, cells := 0, slots := 0, locals := 0 }
def wX3_isMissing (M : zM) (o0 : Nat) (Q : Int32 → Prop) : Prop :=
    ((¬ (M o0 0) = (-1 : Int32)) → (
    Q (0 : Int32))) ∧
    (((M o0 0) = (-1 : Int32)) → (
    Q (1 : Int32)))
set_option maxHeartbeats 4000000 in
set_option maxRecDepth 100000 in
theorem kX3_isMissing {l : Launch} {D : va_G} {Y : zY} {ad kd : Nat → Nat} {RL : List Nat} {M : zM} {J : zL} {o0 : Nat} (h_o0 : kd o0 = 3) {Q : Int32 → Prop} (hq : wX3_isMissing M o0 Q) : zCi l yX3_isMissing wsX3_isMissing rmX3_isMissing [.ref (ad o0)] D Y ad kd RL M J (fun r M' J' => Q r ∧ M = M' ∧ J = J') := by
  refine z_meti (cc := cX3_isMissing) (maxL := 1) (ret := (some .boolean)) (by decide) rfl (Nat.le_of_ble_eq_true rfl) ?_
  intro p e s m below meth c ls A ar QE hQE hx hb hr hml hown hts hlk hw hl
  have hown : s.vm.findClass RX3 = some m.cls := hown
  have hl : lv_has ls 1 [(0, .ref (ad o0))] := hl
  have hC := hw.2.2.2.2.2.1
  have g3 : ∀ w ∈ wsX30, w.before ar s = true := (fun w h => hts w (List.mem_cons_of_mem _ (List.mem_append_right _ h)))
  have q1 := hts _ (List.mem_of_getElem? (i := 1) rfl)
  unfold wX3_isMissing at hq
  refine lv_aload_n hx hb dX3_isMissing_0 rfl (lv_at hl 0 rfl) ?_
  refine zg3_lane hx hb g3 hown hw h_o0 q1 dX3_isMissing_1 ?_
  refine lv_iconst (v := (-1 : Int32)) hx hb dX3_isMissing_4 (by decide) ?_
  refine lv_icmp_ne (tgt := 12) hx hb dX3_isMissing_5 (by decide) (fun hc => ?_) (fun hc => ?_)
  · have hq := hq.1 hc
    refine lv_iconst (v := (0 : Int32)) hx hb dX3_isMissing_12 (by decide) ?_
    exact z_zret hQE hx hb hr hlk hw dX3_isMissing_13 (by decide) ⟨hq, rfl, rfl⟩
  · have hq := hq.2 hc
    refine lv_iconst (v := (1 : Int32)) hx hb dX3_isMissing_8 (by decide) ?_
    refine lv_goto (tgt := 13) hx hb dX3_isMissing_9 (by decide) ?_
    exact z_zret hQE hx hb hr hlk hw dX3_isMissing_13 (by decide) ⟨hq, rfl, rfl⟩
set_option maxRecDepth 20000 in
theorem ggX3_begin_J7_fill_53178 : GoodIn wsX3_begin wsJ7_fill_53178 := goodIn_r _ [7] (by decide +kernel) (by decide +kernel)
set_option maxRecDepth 20000 in
theorem gX3_begin_J7_fill_53178 : GoodIn wsX3_begin (va_wsS RX3 22 yJ7_fill_53178 wsJ7_fill_53178) := goodIn_app (goodIn_of _ (by decide +kernel)) ggX3_begin_J7_fill_53178
theorem dX3_begin_0 : decode cX3_begin 0 = .ok (.aload_n 0, 1) := by decide +kernel
theorem dX3_begin_1 : decode cX3_begin 1 = .ok (.iload_n 1, 1) := by decide +kernel
theorem dX3_begin_2 : decode cX3_begin 2 = .ok (.putfield 11, 3) := by decide +kernel
theorem dX3_begin_5 : decode cX3_begin 5 = .ok (.aload_n 0, 1) := by decide +kernel
theorem dX3_begin_6 : decode cX3_begin 6 = .ok (.iload_n 2, 1) := by decide +kernel
theorem dX3_begin_7 : decode cX3_begin 7 = .ok (.putfield 15, 3) := by decide +kernel
theorem dX3_begin_10 : decode cX3_begin 10 = .ok (.aload_n 0, 1) := by decide +kernel
theorem dX3_begin_11 : decode cX3_begin 11 = .ok (.getfield 18, 3) := by decide +kernel
theorem dX3_begin_14 : decode cX3_begin 14 = .ok (.iconst 0, 1) := by decide +kernel
theorem dX3_begin_15 : decode cX3_begin 15 = .ok (.invokestatic 22, 3) := by decide +kernel
theorem dX3_begin_18 : decode cX3_begin 18 = .ok (.return_, 1) := by decide +kernel
def rmX3_begin : Room := { frames := 1, cells := 0, slots := 0, locals := 23 }
def wX3_begin (M : zM) (o0 : Nat) (x1 : Int32) (x2 : Int32) (Q : zM → Prop) : Prop :=
    ∀ M5 : zM, M5 = va_up M o0 (upd (M o0) 0 x1) →
    ∀ M6 : zM, M6 = va_up M5 o0 (upd (M5 o0) 1 x2) →
    wJ7_fill_53178 M6 (o0 + 1) 40 (0 : Int32) (fun M7 =>
    Q M7)
set_option maxHeartbeats 4000000 in
set_option maxRecDepth 100000 in
theorem kX3_begin {l : Launch} {D : va_G} {Y : zY} {ad kd : Nat → Nat} {RL : List Nat} {M : zM} {J : zL} {o0 : Nat} {x1 : Int32} {x2 : Int32} (h_o0 : kd o0 = 3) {Q : zM → Prop} (hq : wX3_begin M o0 x1 x2 Q) : zCv l yX3_begin wsX3_begin rmX3_begin [.ref (ad o0), .int x1, .int x2] D Y ad kd RL M J (fun M' J' => Q M' ∧ J = J') := by
  refine z_metv (cc := cX3_begin) (maxL := 3) (ret := none) (by decide) rfl (Nat.le_of_ble_eq_true rfl) ?_
  intro p e s m below meth c ls A ar QE hQE hx hb hr hml hown hts hlk hw hl
  have hown : s.vm.findClass RX3 = some m.cls := hown
  have hl : lv_has ls 3 [(0, .ref (ad o0)), (1, .int x1), (2, .int x2)] := hl
  have hC := hw.2.2.2.2.2.1
  have g3 : ∀ w ∈ wsX30, w.before ar s = true := (fun w h => hts w (List.mem_cons_of_mem _ (List.mem_append_right _ h)))
  have q1 := hts _ (List.mem_of_getElem? (i := 1) rfl)
  have q2 := hts _ (List.mem_of_getElem? (i := 2) rfl)
  have q3 := hts _ (List.mem_of_getElem? (i := 3) rfl)
  unfold wX3_begin at hq
  refine lv_aload_n hx hb dX3_begin_0 rfl (lv_at hl 0 rfl) ?_
  refine lv_iload_n hx hb dX3_begin_1 rfl (lv_at hl 1 rfl) ?_
  refine zp3_lane hx hb g3 hown hw h_o0 q1 dX3_begin_2 (fun H locs hw => ?_)
  obtain ⟨M5, e_M5⟩ : ∃ y : zM, y = va_up M o0 (upd (M o0) 0 x1) := ⟨_, rfl⟩
  rw [← e_M5] at hw
  have hq := hq M5 e_M5
  refine lv_aload_n hx hb dX3_begin_5 rfl (lv_at hl 0 rfl) ?_
  refine lv_iload_n hx hb dX3_begin_6 rfl (lv_at hl 2 rfl) ?_
  refine zp3_size hx hb g3 hown hw h_o0 q2 dX3_begin_7 (fun H locs hw => ?_)
  obtain ⟨M6, e_M6⟩ : ∃ y : zM, y = va_up M5 o0 (upd (M5 o0) 1 x2) := ⟨_, rfl⟩
  rw [← e_M6] at hw
  have hq := hq M6 e_M6
  refine lv_aload_n hx hb dX3_begin_10 rfl (lv_at hl 0 rfl) ?_
  refine zg3_items hx hb g3 hown hw h_o0 q3 dX3_begin_11 ?_
  refine lv_iconst (v := (0 : Int32)) hx hb dX3_begin_14 (by decide) ?_
  refine z_csv ⟨hx, hb, hml, hown, hts⟩ hw (kJ7_fill_53178 (zk_3_1 hC h_o0) hq) (va_cwS 2 hts gX3_begin_J7_fill_53178 rfl rfl rfl (by decide +kernel) ⟨Nat.le_of_ble_eq_true rfl, Nat.le_of_ble_eq_true rfl⟩) rfl hl.1 rfl (Nat.le_of_ble_eq_true rfl) dX3_begin_15 ⟨Nat.zero_le _, Nat.zero_le _⟩ (fun M7 J0 H locs hq hw => ?_)
  obtain ⟨hq, rfl⟩ := hq
  exact z_vret hQE hx hb hr hlk hw dX3_begin_18 ⟨hq, rfl⟩
theorem dX3_end_0 : decode cX3_end 0 = .ok (.aload_n 0, 1) := by decide +kernel
theorem dX3_end_1 : decode cX3_end 1 = .ok (.getfield 15, 3) := by decide +kernel
theorem dX3_end_4 : decode cX3_end 4 = .ok (.istore_n 1, 1) := by decide +kernel
theorem dX3_end_5 : decode cX3_end 5 = .ok (.aload_n 0, 1) := by decide +kernel
theorem dX3_end_6 : decode cX3_end 6 = .ok (.iconst (-1), 1) := by decide +kernel
theorem dX3_end_7 : decode cX3_end 7 = .ok (.putfield 11, 3) := by decide +kernel
theorem dX3_end_10 : decode cX3_end 10 = .ok (.aload_n 0, 1) := by decide +kernel
theorem dX3_end_11 : decode cX3_end 11 = .ok (.iconst 0, 1) := by decide +kernel
theorem dX3_end_12 : decode cX3_end 12 = .ok (.putfield 15, 3) := by decide +kernel
theorem dX3_end_15 : decode cX3_end 15 = .ok (.iload_n 1, 1) := by decide +kernel
theorem dX3_end_16 : decode cX3_end 16 = .ok (.ireturn, 1) := by decide +kernel
def rmX3_end : Room := { frames := 0, cells := 0, slots := 0, locals := 0 }
def wX3_end (M : zM) (o0 : Nat) (Q : Int32 → zM → Prop) : Prop :=
    ∀ M3 : zM, M3 = va_up M o0 (upd (M o0) 0 (-1 : Int32)) →
    ∀ M4 : zM, M4 = va_up M3 o0 (upd (M3 o0) 1 (0 : Int32)) →
    Q (M o0 1) M4
set_option maxHeartbeats 4000000 in
set_option maxRecDepth 100000 in
theorem kX3_end {l : Launch} {D : va_G} {Y : zY} {ad kd : Nat → Nat} {RL : List Nat} {M : zM} {J : zL} {o0 : Nat} (h_o0 : kd o0 = 3) {Q : Int32 → zM → Prop} (hq : wX3_end M o0 Q) : zCi l yX3_end wsX3_end rmX3_end [.ref (ad o0)] D Y ad kd RL M J (fun r M' J' => Q r M' ∧ J = J') := by
  refine z_meti (cc := cX3_end) (maxL := 2) (ret := (some .int)) (by decide) rfl (Nat.le_of_ble_eq_true rfl) ?_
  intro p e s m below meth c ls A ar QE hQE hx hb hr hml hown hts hlk hw hl
  have hown : s.vm.findClass RX3 = some m.cls := hown
  have hl : lv_has ls 2 [(0, .ref (ad o0))] := hl
  have hC := hw.2.2.2.2.2.1
  have g3 : ∀ w ∈ wsX30, w.before ar s = true := (fun w h => hts w (List.mem_cons_of_mem _ (List.mem_append_right _ h)))
  have q1 := hts _ (List.mem_of_getElem? (i := 1) rfl)
  have q2 := hts _ (List.mem_of_getElem? (i := 2) rfl)
  unfold wX3_end at hq
  refine lv_aload_n hx hb dX3_end_0 rfl (lv_at hl 0 rfl) ?_
  refine zg3_size hx hb g3 hown hw h_o0 q1 dX3_end_1 ?_
  refine lv_istore_n (lv' := [(1, .int (M o0 1)), (0, .ref (ad o0))]) hx hb dX3_end_4 rfl hl (by decide) rfl (fun ls hl => ?_)
  refine lv_aload_n hx hb dX3_end_5 rfl (lv_at hl 1 rfl) ?_
  refine lv_iconst (v := (-1 : Int32)) hx hb dX3_end_6 (by decide) ?_
  refine zp3_lane hx hb g3 hown hw h_o0 q2 dX3_end_7 (fun H locs hw => ?_)
  obtain ⟨M3, e_M3⟩ : ∃ y : zM, y = va_up M o0 (upd (M o0) 0 (-1 : Int32)) := ⟨_, rfl⟩
  rw [← e_M3] at hw
  have hq := hq M3 e_M3
  refine lv_aload_n hx hb dX3_end_10 rfl (lv_at hl 1 rfl) ?_
  refine lv_iconst (v := (0 : Int32)) hx hb dX3_end_11 (by decide) ?_
  refine zp3_size hx hb g3 hown hw h_o0 q1 dX3_end_12 (fun H locs hw => ?_)
  obtain ⟨M4, e_M4⟩ : ∃ y : zM, y = va_up M3 o0 (upd (M3 o0) 1 (0 : Int32)) := ⟨_, rfl⟩
  rw [← e_M4] at hw
  have hq := hq M4 e_M4
  refine lv_iload_n hx hb dX3_end_15 rfl (lv_at hl 0 rfl) ?_
  exact z_iret hQE hx hb hr hlk hw dX3_end_16 ⟨hq, rfl⟩
theorem dX3_holds_0 : decode cX3_holds 0 = .ok (.iload_n 1, 1) := by decide +kernel
theorem dX3_holds_1 : decode cX3_holds 1 = .ok (.ifCond .lt 29, 3) := by decide +kernel
theorem dX3_holds_4 : decode cX3_holds 4 = .ok (.iload_n 2, 1) := by decide +kernel
theorem dX3_holds_5 : decode cX3_holds 5 = .ok (.ifCond .lt 25, 3) := by decide +kernel
theorem dX3_holds_8 : decode cX3_holds 8 = .ok (.iload_n 1, 1) := by decide +kernel
theorem dX3_holds_9 : decode cX3_holds 9 = .ok (.aload_n 0, 1) := by decide +kernel
theorem dX3_holds_10 : decode cX3_holds 10 = .ok (.getfield 15, 3) := by decide +kernel
theorem dX3_holds_13 : decode cX3_holds 13 = .ok (.if_icmp .gt 17, 3) := by decide +kernel
theorem dX3_holds_16 : decode cX3_holds 16 = .ok (.iload_n 2, 1) := by decide +kernel
theorem dX3_holds_17 : decode cX3_holds 17 = .ok (.aload_n 0, 1) := by decide +kernel
theorem dX3_holds_18 : decode cX3_holds 18 = .ok (.getfield 15, 3) := by decide +kernel
theorem dX3_holds_21 : decode cX3_holds 21 = .ok (.iload_n 1, 1) := by decide +kernel
theorem dX3_holds_22 : decode cX3_holds 22 = .ok (.isub, 1) := by decide +kernel
theorem dX3_holds_23 : decode cX3_holds 23 = .ok (.if_icmp .gt 7, 3) := by decide +kernel
theorem dX3_holds_26 : decode cX3_holds 26 = .ok (.iconst 1, 1) := by decide +kernel
theorem dX3_holds_27 : decode cX3_holds 27 = .ok (.goto 4, 3) := by decide +kernel
theorem dX3_holds_30 : decode cX3_holds 30 = .ok (.iconst 0, 1) := by decide +kernel
theorem dX3_holds_31 : decode cX3_holds 31 = .ok (.ireturn, 1) := by decide +kernel
def rmX3_holds : Room := { frames := 0, cells := 0, slots := 0, locals := 0 }
def wX3_holds (M : zM) (o0 : Nat) (x1 : Int32) (x2 : Int32) (Q : Int32 → Prop) : Prop :=
    ((x1 < 0) → (
    Q (0 : Int32))) ∧
    ((¬ x1 < 0) → (
    ((x2 < 0) → (
    Q (0 : Int32))) ∧
    ((¬ x2 < 0) → (
    (((M o0 1) < x1) → (
    Q (0 : Int32))) ∧
    ((¬ (M o0 1) < x1) → (
    ((((M o0 1) - x1) < x2) → (
    Q (0 : Int32))) ∧
    ((¬ ((M o0 1) - x1) < x2) → (
    Q (1 : Int32)))))))))
set_option maxHeartbeats 4000000 in
set_option maxRecDepth 100000 in
theorem kX3_holds {l : Launch} {D : va_G} {Y : zY} {ad kd : Nat → Nat} {RL : List Nat} {M : zM} {J : zL} {o0 : Nat} {x1 : Int32} {x2 : Int32} (h_o0 : kd o0 = 3) {Q : Int32 → Prop} (hq : wX3_holds M o0 x1 x2 Q) : zCi l yX3_holds wsX3_holds rmX3_holds [.ref (ad o0), .int x1, .int x2] D Y ad kd RL M J (fun r M' J' => Q r ∧ M = M' ∧ J = J') := by
  refine z_meti (cc := cX3_holds) (maxL := 3) (ret := (some .boolean)) (by decide) rfl (Nat.le_of_ble_eq_true rfl) ?_
  intro p e s m below meth c ls A ar QE hQE hx hb hr hml hown hts hlk hw hl
  have hown : s.vm.findClass RX3 = some m.cls := hown
  have hl : lv_has ls 3 [(0, .ref (ad o0)), (1, .int x1), (2, .int x2)] := hl
  have hC := hw.2.2.2.2.2.1
  have g3 : ∀ w ∈ wsX30, w.before ar s = true := (fun w h => hts w (List.mem_cons_of_mem _ (List.mem_append_right _ h)))
  have q1 := hts _ (List.mem_of_getElem? (i := 1) rfl)
  unfold wX3_holds at hq
  refine lv_iload_n hx hb dX3_holds_0 rfl (lv_at hl 1 rfl) ?_
  refine lv_if_lt (tgt := 30) hx hb dX3_holds_1 (by decide) (fun hc => ?_) (fun hc => ?_)
  · have hq := hq.1 hc
    refine lv_iconst (v := (0 : Int32)) hx hb dX3_holds_30 (by decide) ?_
    exact z_zret hQE hx hb hr hlk hw dX3_holds_31 (by decide) ⟨hq, rfl, rfl⟩
  · have hq := hq.2 hc
    refine lv_iload_n hx hb dX3_holds_4 rfl (lv_at hl 2 rfl) ?_
    refine lv_if_lt (tgt := 30) hx hb dX3_holds_5 (by decide) (fun hc => ?_) (fun hc => ?_)
    · have hq := hq.1 hc
      refine lv_iconst (v := (0 : Int32)) hx hb dX3_holds_30 (by decide) ?_
      exact z_zret hQE hx hb hr hlk hw dX3_holds_31 (by decide) ⟨hq, rfl, rfl⟩
    · have hq := hq.2 hc
      refine lv_iload_n hx hb dX3_holds_8 rfl (lv_at hl 1 rfl) ?_
      refine lv_aload_n hx hb dX3_holds_9 rfl (lv_at hl 0 rfl) ?_
      refine zg3_size hx hb g3 hown hw h_o0 q1 dX3_holds_10 ?_
      refine lv_icmp_gt (tgt := 30) hx hb dX3_holds_13 (by decide) (fun hc => ?_) (fun hc => ?_)
      · have hq := hq.1 hc
        refine lv_iconst (v := (0 : Int32)) hx hb dX3_holds_30 (by decide) ?_
        exact z_zret hQE hx hb hr hlk hw dX3_holds_31 (by decide) ⟨hq, rfl, rfl⟩
      · have hq := hq.2 hc
        refine lv_iload_n hx hb dX3_holds_16 rfl (lv_at hl 2 rfl) ?_
        refine lv_aload_n hx hb dX3_holds_17 rfl (lv_at hl 0 rfl) ?_
        refine zg3_size hx hb g3 hown hw h_o0 q1 dX3_holds_18 ?_
        refine lv_iload_n hx hb dX3_holds_21 rfl (lv_at hl 1 rfl) ?_
        refine lv_isub hx hb dX3_holds_22 ?_
        refine lv_icmp_gt (tgt := 30) hx hb dX3_holds_23 (by decide) (fun hc => ?_) (fun hc => ?_)
        · have hq := hq.1 hc
          refine lv_iconst (v := (0 : Int32)) hx hb dX3_holds_30 (by decide) ?_
          exact z_zret hQE hx hb hr hlk hw dX3_holds_31 (by decide) ⟨hq, rfl, rfl⟩
        · have hq := hq.2 hc
          refine lv_iconst (v := (1 : Int32)) hx hb dX3_holds_26 (by decide) ?_
          refine lv_goto (tgt := 31) hx hb dX3_holds_27 (by decide) ?_
          exact z_zret hQE hx hb hr hlk hw dX3_holds_31 (by decide) ⟨hq, rfl, rfl⟩
theorem dX3_put_0 : decode cX3_put 0 = .ok (.aload_n 0, 1) := by decide +kernel
theorem dX3_put_1 : decode cX3_put 1 = .ok (.getfield 18, 3) := by decide +kernel
theorem dX3_put_4 : decode cX3_put 4 = .ok (.iload_n 1, 1) := by decide +kernel
theorem dX3_put_5 : decode cX3_put 5 = .ok (.aload_n 0, 1) := by decide +kernel
theorem dX3_put_6 : decode cX3_put 6 = .ok (.getfield 11, 3) := by decide +kernel
theorem dX3_put_9 : decode cX3_put 9 = .ok (.ifCond .ne 8, 3) := by decide +kernel
theorem dX3_put_12 : decode cX3_put 12 = .ok (.iload_n 2, 1) := by decide +kernel
theorem dX3_put_13 : decode cX3_put 13 = .ok (.i2b, 1) := by decide +kernel
theorem dX3_put_14 : decode cX3_put 14 = .ok (.goto 17, 3) := by decide +kernel
theorem dX3_put_17 : decode cX3_put 17 = .ok (.aload_n 0, 1) := by decide +kernel
theorem dX3_put_18 : decode cX3_put 18 = .ok (.getfield 11, 3) := by decide +kernel
theorem dX3_put_21 : decode cX3_put 21 = .ok (.iconst 1, 1) := by decide +kernel
theorem dX3_put_22 : decode cX3_put 22 = .ok (.if_icmp .ne 8, 3) := by decide +kernel
theorem dX3_put_25 : decode cX3_put 25 = .ok (.iload_n 2, 1) := by decide +kernel
theorem dX3_put_26 : decode cX3_put 26 = .ok (.i2s, 1) := by decide +kernel
theorem dX3_put_27 : decode cX3_put 27 = .ok (.goto 4, 3) := by decide +kernel
theorem dX3_put_30 : decode cX3_put 30 = .ok (.iload_n 2, 1) := by decide +kernel
theorem dX3_put_31 : decode cX3_put 31 = .ok (.iastore, 1) := by decide +kernel
theorem dX3_put_32 : decode cX3_put 32 = .ok (.aload_n 0, 1) := by decide +kernel
theorem dX3_put_33 : decode cX3_put 33 = .ok (.getfield 18, 3) := by decide +kernel
theorem dX3_put_36 : decode cX3_put 36 = .ok (.iload_n 1, 1) := by decide +kernel
theorem dX3_put_37 : decode cX3_put 37 = .ok (.iaload, 1) := by decide +kernel
theorem dX3_put_38 : decode cX3_put 38 = .ok (.ireturn, 1) := by decide +kernel
def rmX3_put : Room := { frames := 0, cells := 0, slots := 0, locals := 0 }
def jnX3_put_31 (M : zM) (o0 : Nat) (x1 : Int32) (Q : Int32 → zM → Prop) (x5 : Int32) : Prop :=
    vp_in x1 40 ∧
    ∀ M6 : zM, M6 = va_up M (o0 + 1) (upd (M (o0 + 1)) x1.toNatClampNeg x5) →
    vp_in x1 40 ∧
    Q (M6 (o0 + 1) x1.toNatClampNeg) M6
def wX3_put (M : zM) (o0 : Nat) (x1 : Int32) (x2 : Int32) (Q : Int32 → zM → Prop) : Prop :=
    ((¬ (M o0 0) = 0) → (
    ((¬ (M o0 0) = (1 : Int32)) → (
    jnX3_put_31 M o0 x1 Q x2)) ∧
    (((M o0 0) = (1 : Int32)) → (
    jnX3_put_31 M o0 x1 Q x2.toInt16.toInt32)))) ∧
    (((M o0 0) = 0) → (
    jnX3_put_31 M o0 x1 Q x2.toInt8.toInt32))
set_option maxHeartbeats 4000000 in
set_option maxRecDepth 100000 in
theorem kX3_put {l : Launch} {D : va_G} {Y : zY} {ad kd : Nat → Nat} {RL : List Nat} {M : zM} {J : zL} {o0 : Nat} {x1 : Int32} {x2 : Int32} (h_o0 : kd o0 = 3) {Q : Int32 → zM → Prop} (hq : wX3_put M o0 x1 x2 Q) : zCi l yX3_put wsX3_put rmX3_put [.ref (ad o0), .int x1, .int x2] D Y ad kd RL M J (fun r M' J' => Q r M' ∧ J = J') := by
  refine z_meti (cc := cX3_put) (maxL := 3) (ret := (some .int)) (by decide) rfl (Nat.le_of_ble_eq_true rfl) ?_
  intro p e s m below meth c ls A ar QE hQE hx hb hr hml hown hts hlk hw hl
  have hown : s.vm.findClass RX3 = some m.cls := hown
  have hl : lv_has ls 3 [(0, .ref (ad o0)), (1, .int x1), (2, .int x2)] := hl
  have hC := hw.2.2.2.2.2.1
  have g3 : ∀ w ∈ wsX30, w.before ar s = true := (fun w h => hts w (List.mem_cons_of_mem _ (List.mem_append_right _ h)))
  have q1 := hts _ (List.mem_of_getElem? (i := 1) rfl)
  have q2 := hts _ (List.mem_of_getElem? (i := 2) rfl)
  unfold wX3_put at hq
  refine lv_aload_n hx hb dX3_put_0 rfl (lv_at hl 0 rfl) ?_
  refine zg3_items hx hb g3 hown hw h_o0 q1 dX3_put_1 ?_
  refine lv_iload_n hx hb dX3_put_4 rfl (lv_at hl 1 rfl) ?_
  refine lv_aload_n hx hb dX3_put_5 rfl (lv_at hl 0 rfl) ?_
  refine zg3_lane hx hb g3 hown hw h_o0 q2 dX3_put_6 ?_
  have jn31 : ∀ (x5 : Int32) (H : Heap) (locs : List Loc) (ls : Array Slot), jnX3_put_31 M o0 x1 Q x5 → zH D Y ad kd RL M J A s.heap H locs s → lv_has ls 3 [(0, .ref (ad o0)), (1, .int x1)] → W p l e rmX3_put s m ar below meth c H locs 0 0 QE (F0 m 31 ls [.int x5, .int x1, .ref (ad (o0 + 1))]) := by
    intro x5 H locs ls hq hw hl
    unfold jnX3_put_31 at hq
    obtain ⟨hi, hq⟩ := hq
    refine z_iast (n := 40) hx hb hw (zk_3_1 hC h_o0) hi dX3_put_31 (fun H locs hw => ?_)
    obtain ⟨M6, e_M6⟩ : ∃ y : zM, y = va_up M (o0 + 1) (upd (M (o0 + 1)) x1.toNatClampNeg x5) := ⟨_, rfl⟩
    rw [← e_M6] at hw
    have hq := hq M6 e_M6
    refine lv_aload_n hx hb dX3_put_32 rfl (lv_at hl 0 rfl) ?_
    refine zg3_items hx hb g3 hown hw h_o0 q1 dX3_put_33 ?_
    refine lv_iload_n hx hb dX3_put_36 rfl (lv_at hl 1 rfl) ?_
    obtain ⟨hi, hq⟩ := hq
    refine z_iald (n := 40) hx hb hw (zk_3_1 hC h_o0) hi dX3_put_37 ?_
    exact z_iret hQE hx hb hr hlk hw dX3_put_38 ⟨hq, rfl⟩
  refine lv_if_ne (tgt := 17) hx hb dX3_put_9 (by decide) (fun hc => ?_) (fun hc => ?_)
  · have hq := hq.1 hc
    refine lv_aload_n hx hb dX3_put_17 rfl (lv_at hl 0 rfl) ?_
    refine zg3_lane hx hb g3 hown hw h_o0 q2 dX3_put_18 ?_
    refine lv_iconst (v := (1 : Int32)) hx hb dX3_put_21 (by decide) ?_
    refine lv_icmp_ne (tgt := 30) hx hb dX3_put_22 (by decide) (fun hc => ?_) (fun hc => ?_)
    · have hq := hq.1 hc
      refine lv_iload_n hx hb dX3_put_30 rfl (lv_at hl 2 rfl) ?_
      exact jn31 x2 _ _ _ hq hw (lv_sub hl [0, 1] rfl)
    · have hq := hq.2 hc
      refine lv_iload_n hx hb dX3_put_25 rfl (lv_at hl 2 rfl) ?_
      refine lv_i2s hx hb dX3_put_26 rfl ?_
      refine lv_goto (tgt := 31) hx hb dX3_put_27 (by decide) ?_
      exact jn31 x2.toInt16.toInt32 _ _ _ hq hw (lv_sub hl [0, 1] rfl)
  · have hq := hq.2 hc
    refine lv_iload_n hx hb dX3_put_12 rfl (lv_at hl 2 rfl) ?_
    refine lv_i2b hx hb dX3_put_13 rfl ?_
    refine lv_goto (tgt := 31) hx hb dX3_put_14 (by decide) ?_
    exact jn31 x2.toInt8.toInt32 _ _ _ hq hw (lv_sub hl [0, 1] rfl)
set_option maxRecDepth 20000 in
theorem ggX3_tellsNow_X2_now : GoodIn wsX3_tellsNow wsX2_now := goodIn_r _ [6, 7, 8, 9, 10, 11, 5, 12, 13, 17, 18, 19, 20, 21, 22] (by decide +kernel) (by decide +kernel)
set_option maxRecDepth 20000 in
theorem gX3_tellsNow_X2_now : GoodIn wsX3_tellsNow (wsV RX3 28 RX2 yX2_now wsX2_now) := goodIn_app (goodIn_of _ (by decide +kernel)) ggX3_tellsNow_X2_now
theorem dX3_tellsNow_0 : decode cX3_tellsNow 0 = .ok (.iconst 0, 1) := by decide +kernel
theorem dX3_tellsNow_1 : decode cX3_tellsNow 1 = .ok (.istore_n 3, 1) := by decide +kernel
theorem dX3_tellsNow_2 : decode cX3_tellsNow 2 = .ok (.iload_n 3, 1) := by decide +kernel
theorem dX3_tellsNow_3 : decode cX3_tellsNow 3 = .ok (.iload_n 2, 1) := by decide +kernel
theorem dX3_tellsNow_4 : decode cX3_tellsNow 4 = .ok (.if_icmp .ge 25, 3) := by decide +kernel
theorem dX3_tellsNow_7 : decode cX3_tellsNow 7 = .ok (.aload_n 0, 1) := by decide +kernel
theorem dX3_tellsNow_8 : decode cX3_tellsNow 8 = .ok (.getfield 18, 3) := by decide +kernel
theorem dX3_tellsNow_11 : decode cX3_tellsNow 11 = .ok (.iload_n 3, 1) := by decide +kernel
theorem dX3_tellsNow_12 : decode cX3_tellsNow 12 = .ok (.iaload, 1) := by decide +kernel
theorem dX3_tellsNow_13 : decode cX3_tellsNow 13 = .ok (.aload_n 1, 1) := by decide +kernel
theorem dX3_tellsNow_14 : decode cX3_tellsNow 14 = .ok (.iload_n 3, 1) := by decide +kernel
theorem dX3_tellsNow_15 : decode cX3_tellsNow 15 = .ok (.invokevirtual 28, 3) := by decide +kernel
theorem dX3_tellsNow_18 : decode cX3_tellsNow 18 = .ok (.if_icmp .eq 5, 3) := by decide +kernel
theorem dX3_tellsNow_21 : decode cX3_tellsNow 21 = .ok (.iconst 0, 1) := by decide +kernel
theorem dX3_tellsNow_22 : decode cX3_tellsNow 22 = .ok (.ireturn, 1) := by decide +kernel
theorem dX3_tellsNow_23 : decode cX3_tellsNow 23 = .ok (.iinc 3 1, 3) := by decide +kernel
theorem dX3_tellsNow_26 : decode cX3_tellsNow 26 = .ok (.goto (-24), 3) := by decide +kernel
theorem dX3_tellsNow_29 : decode cX3_tellsNow 29 = .ok (.iconst 1, 1) := by decide +kernel
theorem dX3_tellsNow_30 : decode cX3_tellsNow 30 = .ok (.ireturn, 1) := by decide +kernel
def rmX3_tellsNow : Room := { frames := 2, cells := 0, slots := 0, locals := 42 }
def lpX3_tellsNow_2 (M : zM) (o0 : Nat) (o1 : Nat) (x2 : Int32) (Q : Int32 → Prop) : Nat → Int32 → Prop
  | 0, _ => False
  | fu2 + 1, x5 =>
    ((x2 ≤ x5) → (
    Q (1 : Int32))) ∧
    ((¬ x2 ≤ x5) → (
    vp_in x5 40 ∧
    wX2_now M o1 x5 (fun r6 =>
    (((M (o0 + 1) x5.toNatClampNeg) = r6) → (
    ∀ x7 : Int32, x7 = x5 + (1 : Int32) →
    lpX3_tellsNow_2 M o0 o1 x2 Q fu2 x7)) ∧
    ((¬ (M (o0 + 1) x5.toNatClampNeg) = r6) → (
    Q (0 : Int32))))))
def wX3_tellsNow (M : zM) (o0 : Nat) (o1 : Nat) (x2 : Int32) (Q : Int32 → Prop) : Prop :=
    ∃ fu2 : Nat, lpX3_tellsNow_2 M o0 o1 x2 Q fu2 (0 : Int32)
set_option maxHeartbeats 4000000 in
set_option maxRecDepth 100000 in
theorem kX3_tellsNow {l : Launch} {D : va_G} {Y : zY} {ad kd : Nat → Nat} {RL : List Nat} {M : zM} {J : zL} {o0 : Nat} {o1 : Nat} {x2 : Int32} (h_o0 : kd o0 = 3) (h_o1 : kd o1 = 2) {Q : Int32 → Prop} (hq : wX3_tellsNow M o0 o1 x2 Q) : zCi l yX3_tellsNow wsX3_tellsNow rmX3_tellsNow [.ref (ad o0), .ref (ad o1), .int x2] D Y ad kd RL M J (fun r M' J' => Q r ∧ M = M' ∧ J = J') := by
  refine z_meti (cc := cX3_tellsNow) (maxL := 4) (ret := (some .boolean)) (by decide) rfl (Nat.le_of_ble_eq_true rfl) ?_
  intro p e s m below meth c ls A ar QE hQE hx hb hr hml hown hts hlk hw hl
  have hown : s.vm.findClass RX3 = some m.cls := hown
  have hl : lv_has ls 4 [(0, .ref (ad o0)), (1, .ref (ad o1)), (2, .int x2)] := hl
  have hC := hw.2.2.2.2.2.1
  have g3 : ∀ w ∈ wsX30, w.before ar s = true := (fun w h => hts w (List.mem_cons_of_mem _ (List.mem_append_left _ (List.mem_append_right _ h))))
  have q1 := hts _ (List.mem_of_getElem? (i := 1) rfl)
  unfold wX3_tellsNow at hq
  refine lv_iconst (v := (0 : Int32)) hx hb dX3_tellsNow_0 (by decide) ?_
  refine lv_istore_n (lv' := [(3, .int (0 : Int32)), (0, .ref (ad o0)), (1, .ref (ad o1)), (2, .int x2)]) hx hb dX3_tellsNow_1 rfl hl (by decide) rfl (fun ls hl => ?_)
  obtain ⟨fu2, hq⟩ := hq
  have lp2 : ∀ (fu2 : Nat) (x5 : Int32) (H : Heap) (locs : List Loc) (ls : Array Slot), lpX3_tellsNow_2 M o0 o1 x2 Q fu2 x5 → zH D Y ad kd RL M J A s.heap H locs s → lv_has ls 4 [(0, .ref (ad o0)), (1, .ref (ad o1)), (2, .int x2), (3, .int x5)] → W p l e rmX3_tellsNow s m ar below meth c H locs 0 0 QE (F0 m 2 ls []) := by
    intro fu2
    induction fu2 with
    | zero => intro x5 H locs ls hq; exact hq.elim
    | succ fu2 ih2 =>
      intro x5 H locs ls hq hw hl
      unfold lpX3_tellsNow_2 at hq
      refine lv_iload_n hx hb dX3_tellsNow_2 rfl (lv_at hl 3 rfl) ?_
      refine lv_iload_n hx hb dX3_tellsNow_3 rfl (lv_at hl 2 rfl) ?_
      refine lv_icmp_ge (tgt := 29) hx hb dX3_tellsNow_4 (by decide) (fun hc => ?_) (fun hc => ?_)
      · have hq := hq.1 hc
        refine lv_iconst (v := (1 : Int32)) hx hb dX3_tellsNow_29 (by decide) ?_
        exact z_zret hQE hx hb hr hlk hw dX3_tellsNow_30 (by decide) ⟨hq, rfl, rfl⟩
      · have hq := hq.2 hc
        refine lv_aload_n hx hb dX3_tellsNow_7 rfl (lv_at hl 0 rfl) ?_
        refine zg3_items hx hb g3 hown hw h_o0 q1 dX3_tellsNow_8 ?_
        refine lv_iload_n hx hb dX3_tellsNow_11 rfl (lv_at hl 3 rfl) ?_
        obtain ⟨hi, hq⟩ := hq
        refine z_iald (n := 40) hx hb hw (zk_3_1 hC h_o0) hi dX3_tellsNow_12 ?_
        refine lv_aload_n hx hb dX3_tellsNow_13 rfl (lv_at hl 1 rfl) ?_
        refine lv_iload_n hx hb dX3_tellsNow_14 rfl (lv_at hl 3 rfl) ?_
        refine z_cvi ⟨hx, hb, hml, hown, hts⟩ hw h_o1 (kX2_now h_o1 hq) (by decide) rfl (cwV 1 hts gX3_tellsNow_X2_now rfl rfl rfl (by decide +kernel) ⟨Nat.le_of_ble_eq_true rfl, Nat.le_of_ble_eq_true rfl⟩) rfl hl.1 rfl (Nat.le_of_ble_eq_true rfl) dX3_tellsNow_15 ⟨Nat.zero_le _, Nat.zero_le _⟩ (fun r6 M0 J0 H locs hq hw => ?_)
        obtain ⟨hq, rfl, rfl⟩ := hq
        refine lv_icmp_eq (tgt := 23) hx hb dX3_tellsNow_18 (by decide) (fun hc => ?_) (fun hc => ?_)
        · have hq := hq.1 hc
          obtain ⟨x7, e_x7⟩ : ∃ y : Int32, y = x5 + (1 : Int32) := ⟨_, rfl⟩
          have hq := hq x7 e_x7
          refine lv_iinc (v := x7) (lv' := [(3, .int x7), (0, .ref (ad o0)), (1, .ref (ad o1)), (2, .int x2)]) hx hb dX3_tellsNow_23 hl (k := 3) rfl (by rw [e_x7]; rfl) (by decide) rfl (fun ls hl => ?_)
          refine lv_goto (tgt := 2) hx hb dX3_tellsNow_26 (by decide) ?_
          exact ih2 x7 _ _ _ hq hw (lv_sub hl [1, 2, 3, 0] rfl)
        · have hq := hq.2 hc
          refine lv_iconst (v := (0 : Int32)) hx hb dX3_tellsNow_21 (by decide) ?_
          exact z_zret hQE hx hb hr hlk hw dX3_tellsNow_22 (by decide) ⟨hq, rfl, rfl⟩
  exact lp2 fu2 (0 : Int32) _ _ _ hq hw (lv_sub hl [1, 2, 3, 0] rfl)
theorem dX6_isFull_0 : decode cX6_isFull 0 = .ok (.aload_n 0, 1) := by decide +kernel
theorem dX6_isFull_1 : decode cX6_isFull 1 = .ok (.getfield 15, 3) := by decide +kernel
theorem dX6_isFull_4 : decode cX6_isFull 4 = .ok (.bipush 120, 2) := by decide +kernel
theorem dX6_isFull_6 : decode cX6_isFull 6 = .ok (.if_icmp .lt 7, 3) := by decide +kernel
theorem dX6_isFull_9 : decode cX6_isFull 9 = .ok (.iconst 1, 1) := by decide +kernel
theorem dX6_isFull_10 : decode cX6_isFull 10 = .ok (.goto 4, 3) := by decide +kernel
theorem dX6_isFull_13 : decode cX6_isFull 13 = .ok (.iconst 0, 1) := by decide +kernel
theorem dX6_isFull_14 : decode cX6_isFull 14 = .ok (.ireturn, 1) := by decide +kernel
def rmX6_isFull : Room := { frames := 0, cells := 0, slots := 0, locals := 0 }
def wX6_isFull (M : zM) (o0 : Nat) (Q : Int32 → Prop) : Prop :=
    (((M o0 0) < (120 : Int32)) → (
    Q (0 : Int32))) ∧
    ((¬ (M o0 0) < (120 : Int32)) → (
    Q (1 : Int32)))
set_option maxHeartbeats 4000000 in
set_option maxRecDepth 100000 in
theorem kX6_isFull {l : Launch} {D : va_G} {Y : zY} {ad kd : Nat → Nat} {RL : List Nat} {M : zM} {J : zL} {o0 : Nat} (h_o0 : kd o0 = 6) {Q : Int32 → Prop} (hq : wX6_isFull M o0 Q) : zCi l yX6_isFull wsX6_isFull rmX6_isFull [.ref (ad o0)] D Y ad kd RL M J (fun r M' J' => Q r ∧ M = M' ∧ J = J') := by
  refine z_meti (cc := cX6_isFull) (maxL := 1) (ret := (some .boolean)) (by decide) rfl (Nat.le_of_ble_eq_true rfl) ?_
  intro p e s m below meth c ls A ar QE hQE hx hb hr hml hown hts hlk hw hl
  have hown : s.vm.findClass RX6 = some m.cls := hown
  have hl : lv_has ls 1 [(0, .ref (ad o0))] := hl
  have hC := hw.2.2.2.2.2.1
  have g6 : ∀ w ∈ wsX60, w.before ar s = true := (fun w h => hts w (List.mem_cons_of_mem _ (List.mem_append_right _ h)))
  have q1 := hts _ (List.mem_of_getElem? (i := 1) rfl)
  unfold wX6_isFull at hq
  refine lv_aload_n hx hb dX6_isFull_0 rfl (lv_at hl 0 rfl) ?_
  refine zg6_length hx hb g6 hown hw h_o0 q1 dX6_isFull_1 ?_
  refine lv_bipush (v := (120 : Int32)) hx hb dX6_isFull_4 (by decide) ?_
  refine lv_icmp_lt (tgt := 13) hx hb dX6_isFull_6 (by decide) (fun hc => ?_) (fun hc => ?_)
  · have hq := hq.1 hc
    refine lv_iconst (v := (0 : Int32)) hx hb dX6_isFull_13 (by decide) ?_
    exact z_zret hQE hx hb hr hlk hw dX6_isFull_14 (by decide) ⟨hq, rfl, rfl⟩
  · have hq := hq.2 hc
    refine lv_iconst (v := (1 : Int32)) hx hb dX6_isFull_9 (by decide) ?_
    refine lv_goto (tgt := 14) hx hb dX6_isFull_10 (by decide) ?_
    exact z_zret hQE hx hb hr hlk hw dX6_isFull_14 (by decide) ⟨hq, rfl, rfl⟩
theorem dX6_append_0 : decode cX6_append 0 = .ok (.aload_n 0, 1) := by decide +kernel
theorem dX6_append_1 : decode cX6_append 1 = .ok (.getfield 9, 3) := by decide +kernel
theorem dX6_append_4 : decode cX6_append 4 = .ok (.aload_n 0, 1) := by decide +kernel
theorem dX6_append_5 : decode cX6_append 5 = .ok (.getfield 15, 3) := by decide +kernel
theorem dX6_append_8 : decode cX6_append 8 = .ok (.iload_n 1, 1) := by decide +kernel
theorem dX6_append_9 : decode cX6_append 9 = .ok (.iastore, 1) := by decide +kernel
theorem dX6_append_10 : decode cX6_append 10 = .ok (.aload_n 0, 1) := by decide +kernel
theorem dX6_append_11 : decode cX6_append 11 = .ok (.dup, 1) := by decide +kernel
theorem dX6_append_12 : decode cX6_append 12 = .ok (.getfield 15, 3) := by decide +kernel
theorem dX6_append_15 : decode cX6_append 15 = .ok (.iconst 1, 1) := by decide +kernel
theorem dX6_append_16 : decode cX6_append 16 = .ok (.iadd, 1) := by decide +kernel
theorem dX6_append_17 : decode cX6_append 17 = .ok (.putfield 15, 3) := by decide +kernel
theorem dX6_append_20 : decode cX6_append 20 = .ok (.aload_n 0, 1) := by decide +kernel
theorem dX6_append_21 : decode cX6_append 21 = .ok (.getfield 15, 3) := by decide +kernel
theorem dX6_append_24 : decode cX6_append 24 = .ok (.ireturn, 1) := by decide +kernel
def rmX6_append : Room := { frames := 0, cells := 0, slots := 0, locals := 0 }
def wX6_append (M : zM) (o0 : Nat) (x1 : Int32) (Q : Int32 → zM → Prop) : Prop :=
    vp_in (M o0 0) 120 ∧
    ∀ M4 : zM, M4 = va_up M (o0 + 1) (upd (M (o0 + 1)) (M o0 0).toNatClampNeg x1) →
    ∀ M5 : zM, M5 = va_up M4 o0 (upd (M4 o0) 0 ((M4 o0 0) + (1 : Int32))) →
    Q (M5 o0 0) M5
set_option maxHeartbeats 4000000 in
set_option maxRecDepth 100000 in
theorem kX6_append {l : Launch} {D : va_G} {Y : zY} {ad kd : Nat → Nat} {RL : List Nat} {M : zM} {J : zL} {o0 : Nat} {x1 : Int32} (h_o0 : kd o0 = 6) {Q : Int32 → zM → Prop} (hq : wX6_append M o0 x1 Q) : zCi l yX6_append wsX6_append rmX6_append [.ref (ad o0), .int x1] D Y ad kd RL M J (fun r M' J' => Q r M' ∧ J = J') := by
  refine z_meti (cc := cX6_append) (maxL := 2) (ret := (some .int)) (by decide) rfl (Nat.le_of_ble_eq_true rfl) ?_
  intro p e s m below meth c ls A ar QE hQE hx hb hr hml hown hts hlk hw hl
  have hown : s.vm.findClass RX6 = some m.cls := hown
  have hl : lv_has ls 2 [(0, .ref (ad o0)), (1, .int x1)] := hl
  have hC := hw.2.2.2.2.2.1
  have g6 : ∀ w ∈ wsX60, w.before ar s = true := (fun w h => hts w (List.mem_cons_of_mem _ (List.mem_append_right _ h)))
  have q1 := hts _ (List.mem_of_getElem? (i := 1) rfl)
  have q2 := hts _ (List.mem_of_getElem? (i := 2) rfl)
  unfold wX6_append at hq
  refine lv_aload_n hx hb dX6_append_0 rfl (lv_at hl 0 rfl) ?_
  refine zg6_bytes hx hb g6 hown hw h_o0 q1 dX6_append_1 ?_
  refine lv_aload_n hx hb dX6_append_4 rfl (lv_at hl 0 rfl) ?_
  refine zg6_length hx hb g6 hown hw h_o0 q2 dX6_append_5 ?_
  refine lv_iload_n hx hb dX6_append_8 rfl (lv_at hl 1 rfl) ?_
  obtain ⟨hi, hq⟩ := hq
  refine z_iast (n := 120) hx hb hw (zk_6_1 hC h_o0) hi dX6_append_9 (fun H locs hw => ?_)
  obtain ⟨M4, e_M4⟩ : ∃ y : zM, y = va_up M (o0 + 1) (upd (M (o0 + 1)) (M o0 0).toNatClampNeg x1) := ⟨_, rfl⟩
  rw [← e_M4] at hw
  have hq := hq M4 e_M4
  refine lv_aload_n hx hb dX6_append_10 rfl (lv_at hl 0 rfl) ?_
  refine lv_dup hx hb dX6_append_11 rfl ?_
  refine zg6_length hx hb g6 hown hw h_o0 q2 dX6_append_12 ?_
  refine lv_iconst (v := (1 : Int32)) hx hb dX6_append_15 (by decide) ?_
  refine lv_iadd hx hb dX6_append_16 ?_
  refine zp6_length hx hb g6 hown hw h_o0 q2 dX6_append_17 (fun H locs hw => ?_)
  obtain ⟨M5, e_M5⟩ : ∃ y : zM, y = va_up M4 o0 (upd (M4 o0) 0 ((M4 o0 0) + (1 : Int32))) := ⟨_, rfl⟩
  rw [← e_M5] at hw
  have hq := hq M5 e_M5
  refine lv_aload_n hx hb dX6_append_20 rfl (lv_at hl 0 rfl) ?_
  refine zg6_length hx hb g6 hown hw h_o0 q2 dX6_append_21 ?_
  exact z_iret hQE hx hb hr hlk hw dX6_append_24 ⟨hq, rfl⟩
theorem dX6_clear_0 : decode cX6_clear 0 = .ok (.aload_n 0, 1) := by decide +kernel
theorem dX6_clear_1 : decode cX6_clear 1 = .ok (.iconst 0, 1) := by decide +kernel
theorem dX6_clear_2 : decode cX6_clear 2 = .ok (.putfield 15, 3) := by decide +kernel
theorem dX6_clear_5 : decode cX6_clear 5 = .ok (.return_, 1) := by decide +kernel
def rmX6_clear : Room := { frames := 0, cells := 0, slots := 0, locals := 0 }
def wX6_clear (M : zM) (o0 : Nat) (Q : zM → Prop) : Prop :=
    ∀ M3 : zM, M3 = va_up M o0 (upd (M o0) 0 (0 : Int32)) →
    Q M3
set_option maxHeartbeats 4000000 in
set_option maxRecDepth 100000 in
theorem kX6_clear {l : Launch} {D : va_G} {Y : zY} {ad kd : Nat → Nat} {RL : List Nat} {M : zM} {J : zL} {o0 : Nat} (h_o0 : kd o0 = 6) {Q : zM → Prop} (hq : wX6_clear M o0 Q) : zCv l yX6_clear wsX6_clear rmX6_clear [.ref (ad o0)] D Y ad kd RL M J (fun M' J' => Q M' ∧ J = J') := by
  refine z_metv (cc := cX6_clear) (maxL := 1) (ret := none) (by decide) rfl (Nat.le_of_ble_eq_true rfl) ?_
  intro p e s m below meth c ls A ar QE hQE hx hb hr hml hown hts hlk hw hl
  have hown : s.vm.findClass RX6 = some m.cls := hown
  have hl : lv_has ls 1 [(0, .ref (ad o0))] := hl
  have hC := hw.2.2.2.2.2.1
  have g6 : ∀ w ∈ wsX60, w.before ar s = true := (fun w h => hts w (List.mem_cons_of_mem _ (List.mem_append_right _ h)))
  have q1 := hts _ (List.mem_of_getElem? (i := 1) rfl)
  unfold wX6_clear at hq
  refine lv_aload_n hx hb dX6_clear_0 rfl (lv_at hl 0 rfl) ?_
  refine lv_iconst (v := (0 : Int32)) hx hb dX6_clear_1 (by decide) ?_
  refine zp6_length hx hb g6 hown hw h_o0 q1 dX6_clear_2 (fun H locs hw => ?_)
  obtain ⟨M3, e_M3⟩ : ∃ y : zM, y = va_up M o0 (upd (M o0) 0 (0 : Int32)) := ⟨_, rfl⟩
  rw [← e_M3] at hw
  have hq := hq M3 e_M3
  exact z_vret hQE hx hb hr hlk hw dX6_clear_5 ⟨hq, rfl⟩
theorem dX6_figuresAt_0 : decode cX6_figuresAt 0 = .ok (.iload_n 1, 1) := by decide +kernel
theorem dX6_figuresAt_1 : decode cX6_figuresAt 1 = .ok (.istore_n 2, 1) := by decide +kernel
theorem dX6_figuresAt_2 : decode cX6_figuresAt 2 = .ok (.iload_n 2, 1) := by decide +kernel
theorem dX6_figuresAt_3 : decode cX6_figuresAt 3 = .ok (.aload_n 0, 1) := by decide +kernel
theorem dX6_figuresAt_4 : decode cX6_figuresAt 4 = .ok (.getfield 15, 3) := by decide +kernel
theorem dX6_figuresAt_7 : decode cX6_figuresAt 7 = .ok (.if_icmp .ge 31, 3) := by decide +kernel
theorem dX6_figuresAt_10 : decode cX6_figuresAt 10 = .ok (.aload_n 0, 1) := by decide +kernel
theorem dX6_figuresAt_11 : decode cX6_figuresAt 11 = .ok (.getfield 9, 3) := by decide +kernel
theorem dX6_figuresAt_14 : decode cX6_figuresAt 14 = .ok (.iload_n 2, 1) := by decide +kernel
theorem dX6_figuresAt_15 : decode cX6_figuresAt 15 = .ok (.iaload, 1) := by decide +kernel
theorem dX6_figuresAt_16 : decode cX6_figuresAt 16 = .ok (.bipush 48, 2) := by decide +kernel
theorem dX6_figuresAt_18 : decode cX6_figuresAt 18 = .ok (.if_icmp .lt 20, 3) := by decide +kernel
theorem dX6_figuresAt_21 : decode cX6_figuresAt 21 = .ok (.aload_n 0, 1) := by decide +kernel
theorem dX6_figuresAt_22 : decode cX6_figuresAt 22 = .ok (.getfield 9, 3) := by decide +kernel
theorem dX6_figuresAt_25 : decode cX6_figuresAt 25 = .ok (.iload_n 2, 1) := by decide +kernel
theorem dX6_figuresAt_26 : decode cX6_figuresAt 26 = .ok (.iaload, 1) := by decide +kernel
theorem dX6_figuresAt_27 : decode cX6_figuresAt 27 = .ok (.bipush 57, 2) := by decide +kernel
theorem dX6_figuresAt_29 : decode cX6_figuresAt 29 = .ok (.if_icmp .gt 9, 3) := by decide +kernel
theorem dX6_figuresAt_32 : decode cX6_figuresAt 32 = .ok (.iinc 2 1, 3) := by decide +kernel
theorem dX6_figuresAt_35 : decode cX6_figuresAt 35 = .ok (.goto (-33), 3) := by decide +kernel
theorem dX6_figuresAt_38 : decode cX6_figuresAt 38 = .ok (.iload_n 2, 1) := by decide +kernel
theorem dX6_figuresAt_39 : decode cX6_figuresAt 39 = .ok (.iload_n 1, 1) := by decide +kernel
theorem dX6_figuresAt_40 : decode cX6_figuresAt 40 = .ok (.isub, 1) := by decide +kernel
theorem dX6_figuresAt_41 : decode cX6_figuresAt 41 = .ok (.ireturn, 1) := by decide +kernel
def rmX6_figuresAt : Room := { frames := 0, cells := 0, slots := 0, locals := 0 }
def lpX6_figuresAt_2 (M : zM) (o0 : Nat) (x1 : Int32) (Q : Int32 → Prop) : Nat → Int32 → Prop
  | 0, _ => False
  | fu2 + 1, x4 =>
    (((M o0 0) ≤ x4) → (
    Q (x4 - x1))) ∧
    ((¬ (M o0 0) ≤ x4) → (
    vp_in x4 120 ∧
    (((M (o0 + 1) x4.toNatClampNeg) < (48 : Int32)) → (
    Q (x4 - x1))) ∧
    ((¬ (M (o0 + 1) x4.toNatClampNeg) < (48 : Int32)) → (
    vp_in x4 120 ∧
    (((57 : Int32) < (M (o0 + 1) x4.toNatClampNeg)) → (
    Q (x4 - x1))) ∧
    ((¬ (57 : Int32) < (M (o0 + 1) x4.toNatClampNeg)) → (
    ∀ x5 : Int32, x5 = x4 + (1 : Int32) →
    lpX6_figuresAt_2 M o0 x1 Q fu2 x5))))))
def wX6_figuresAt (M : zM) (o0 : Nat) (x1 : Int32) (Q : Int32 → Prop) : Prop :=
    ∃ fu2 : Nat, lpX6_figuresAt_2 M o0 x1 Q fu2 x1
set_option maxHeartbeats 4000000 in
set_option maxRecDepth 100000 in
theorem kX6_figuresAt {l : Launch} {D : va_G} {Y : zY} {ad kd : Nat → Nat} {RL : List Nat} {M : zM} {J : zL} {o0 : Nat} {x1 : Int32} (h_o0 : kd o0 = 6) {Q : Int32 → Prop} (hq : wX6_figuresAt M o0 x1 Q) : zCi l yX6_figuresAt wsX6_figuresAt rmX6_figuresAt [.ref (ad o0), .int x1] D Y ad kd RL M J (fun r M' J' => Q r ∧ M = M' ∧ J = J') := by
  refine z_meti (cc := cX6_figuresAt) (maxL := 3) (ret := (some .int)) (by decide) rfl (Nat.le_of_ble_eq_true rfl) ?_
  intro p e s m below meth c ls A ar QE hQE hx hb hr hml hown hts hlk hw hl
  have hown : s.vm.findClass RX6 = some m.cls := hown
  have hl : lv_has ls 3 [(0, .ref (ad o0)), (1, .int x1)] := hl
  have hC := hw.2.2.2.2.2.1
  have g6 : ∀ w ∈ wsX60, w.before ar s = true := (fun w h => hts w (List.mem_cons_of_mem _ (List.mem_append_right _ h)))
  have q1 := hts _ (List.mem_of_getElem? (i := 1) rfl)
  have q2 := hts _ (List.mem_of_getElem? (i := 2) rfl)
  unfold wX6_figuresAt at hq
  refine lv_iload_n hx hb dX6_figuresAt_0 rfl (lv_at hl 1 rfl) ?_
  refine lv_istore_n (lv' := [(2, .int x1), (0, .ref (ad o0)), (1, .int x1)]) hx hb dX6_figuresAt_1 rfl hl (by decide) rfl (fun ls hl => ?_)
  obtain ⟨fu2, hq⟩ := hq
  have lp2 : ∀ (fu2 : Nat) (x4 : Int32) (H : Heap) (locs : List Loc) (ls : Array Slot), lpX6_figuresAt_2 M o0 x1 Q fu2 x4 → zH D Y ad kd RL M J A s.heap H locs s → lv_has ls 3 [(0, .ref (ad o0)), (1, .int x1), (2, .int x4)] → W p l e rmX6_figuresAt s m ar below meth c H locs 0 0 QE (F0 m 2 ls []) := by
    intro fu2
    induction fu2 with
    | zero => intro x4 H locs ls hq; exact hq.elim
    | succ fu2 ih2 =>
      intro x4 H locs ls hq hw hl
      unfold lpX6_figuresAt_2 at hq
      refine lv_iload_n hx hb dX6_figuresAt_2 rfl (lv_at hl 2 rfl) ?_
      refine lv_aload_n hx hb dX6_figuresAt_3 rfl (lv_at hl 0 rfl) ?_
      refine zg6_length hx hb g6 hown hw h_o0 q1 dX6_figuresAt_4 ?_
      refine lv_icmp_ge (tgt := 38) hx hb dX6_figuresAt_7 (by decide) (fun hc => ?_) (fun hc => ?_)
      · have hq := hq.1 hc
        refine lv_iload_n hx hb dX6_figuresAt_38 rfl (lv_at hl 2 rfl) ?_
        refine lv_iload_n hx hb dX6_figuresAt_39 rfl (lv_at hl 1 rfl) ?_
        refine lv_isub hx hb dX6_figuresAt_40 ?_
        exact z_iret hQE hx hb hr hlk hw dX6_figuresAt_41 ⟨hq, rfl, rfl⟩
      · have hq := hq.2 hc
        refine lv_aload_n hx hb dX6_figuresAt_10 rfl (lv_at hl 0 rfl) ?_
        refine zg6_bytes hx hb g6 hown hw h_o0 q2 dX6_figuresAt_11 ?_
        refine lv_iload_n hx hb dX6_figuresAt_14 rfl (lv_at hl 2 rfl) ?_
        obtain ⟨hi, hq⟩ := hq
        refine z_iald (n := 120) hx hb hw (zk_6_1 hC h_o0) hi dX6_figuresAt_15 ?_
        refine lv_bipush (v := (48 : Int32)) hx hb dX6_figuresAt_16 (by decide) ?_
        refine lv_icmp_lt (tgt := 38) hx hb dX6_figuresAt_18 (by decide) (fun hc => ?_) (fun hc => ?_)
        · have hq := hq.1 hc
          refine lv_iload_n hx hb dX6_figuresAt_38 rfl (lv_at hl 2 rfl) ?_
          refine lv_iload_n hx hb dX6_figuresAt_39 rfl (lv_at hl 1 rfl) ?_
          refine lv_isub hx hb dX6_figuresAt_40 ?_
          exact z_iret hQE hx hb hr hlk hw dX6_figuresAt_41 ⟨hq, rfl, rfl⟩
        · have hq := hq.2 hc
          refine lv_aload_n hx hb dX6_figuresAt_21 rfl (lv_at hl 0 rfl) ?_
          refine zg6_bytes hx hb g6 hown hw h_o0 q2 dX6_figuresAt_22 ?_
          refine lv_iload_n hx hb dX6_figuresAt_25 rfl (lv_at hl 2 rfl) ?_
          obtain ⟨hi, hq⟩ := hq
          refine z_iald (n := 120) hx hb hw (zk_6_1 hC h_o0) hi dX6_figuresAt_26 ?_
          refine lv_bipush (v := (57 : Int32)) hx hb dX6_figuresAt_27 (by decide) ?_
          refine lv_icmp_gt (tgt := 38) hx hb dX6_figuresAt_29 (by decide) (fun hc => ?_) (fun hc => ?_)
          · have hq := hq.1 hc
            refine lv_iload_n hx hb dX6_figuresAt_38 rfl (lv_at hl 2 rfl) ?_
            refine lv_iload_n hx hb dX6_figuresAt_39 rfl (lv_at hl 1 rfl) ?_
            refine lv_isub hx hb dX6_figuresAt_40 ?_
            exact z_iret hQE hx hb hr hlk hw dX6_figuresAt_41 ⟨hq, rfl, rfl⟩
          · have hq := hq.2 hc
            obtain ⟨x5, e_x5⟩ : ∃ y : Int32, y = x4 + (1 : Int32) := ⟨_, rfl⟩
            have hq := hq x5 e_x5
            refine lv_iinc (v := x5) (lv' := [(2, .int x5), (0, .ref (ad o0)), (1, .int x1)]) hx hb dX6_figuresAt_32 hl (k := 2) rfl (by rw [e_x5]; rfl) (by decide) rfl (fun ls hl => ?_)
            refine lv_goto (tgt := 2) hx hb dX6_figuresAt_35 (by decide) ?_
            exact ih2 x5 _ _ _ hq hw (lv_sub hl [1, 2, 0] rfl)
  exact lp2 fu2 x1 _ _ _ hq hw (lv_sub hl [1, 2, 0] rfl)
set_option maxRecDepth 20000 in
theorem ggX6_numberAt_X6_figuresAt : GoodIn wsX6_numberAt wsX6_figuresAt := goodIn_r _ [10, 11, 5, 12, 13, 14, 15] (by decide +kernel) (by decide +kernel)
set_option maxRecDepth 20000 in
theorem gX6_numberAt_X6_figuresAt : GoodIn wsX6_numberAt (wsV RX6 49 RX6 yX6_figuresAt wsX6_figuresAt) := goodIn_app (goodIn_of _ (by decide +kernel)) ggX6_numberAt_X6_figuresAt
theorem dX6_numberAt_0 : decode cX6_numberAt 0 = .ok (.iload_n 1, 1) := by decide +kernel
theorem dX6_numberAt_1 : decode cX6_numberAt 1 = .ok (.iconst 2, 1) := by decide +kernel
theorem dX6_numberAt_2 : decode cX6_numberAt 2 = .ok (.aload_n 0, 1) := by decide +kernel
theorem dX6_numberAt_3 : decode cX6_numberAt 3 = .ok (.iload_n 1, 1) := by decide +kernel
theorem dX6_numberAt_4 : decode cX6_numberAt 4 = .ok (.invokevirtual 49, 3) := by decide +kernel
theorem dX6_numberAt_7 : decode cX6_numberAt 7 = .ok (.invokestatic 64, 3) := by decide +kernel
theorem dX6_numberAt_10 : decode cX6_numberAt 10 = .ok (.iadd, 1) := by decide +kernel
theorem dX6_numberAt_11 : decode cX6_numberAt 11 = .ok (.istore_n 2, 1) := by decide +kernel
theorem dX6_numberAt_12 : decode cX6_numberAt 12 = .ok (.iconst 0, 1) := by decide +kernel
theorem dX6_numberAt_13 : decode cX6_numberAt 13 = .ok (.istore_n 3, 1) := by decide +kernel
theorem dX6_numberAt_14 : decode cX6_numberAt 14 = .ok (.iload_n 1, 1) := by decide +kernel
theorem dX6_numberAt_15 : decode cX6_numberAt 15 = .ok (.istore 4, 2) := by decide +kernel
theorem dX6_numberAt_17 : decode cX6_numberAt 17 = .ok (.iload 4, 2) := by decide +kernel
theorem dX6_numberAt_19 : decode cX6_numberAt 19 = .ok (.iload_n 2, 1) := by decide +kernel
theorem dX6_numberAt_20 : decode cX6_numberAt 20 = .ok (.if_icmp .ge 25, 3) := by decide +kernel
theorem dX6_numberAt_23 : decode cX6_numberAt 23 = .ok (.iload_n 3, 1) := by decide +kernel
theorem dX6_numberAt_24 : decode cX6_numberAt 24 = .ok (.bipush 10, 2) := by decide +kernel
theorem dX6_numberAt_26 : decode cX6_numberAt 26 = .ok (.imul, 1) := by decide +kernel
theorem dX6_numberAt_27 : decode cX6_numberAt 27 = .ok (.aload_n 0, 1) := by decide +kernel
theorem dX6_numberAt_28 : decode cX6_numberAt 28 = .ok (.getfield 9, 3) := by decide +kernel
theorem dX6_numberAt_31 : decode cX6_numberAt 31 = .ok (.iload 4, 2) := by decide +kernel
theorem dX6_numberAt_33 : decode cX6_numberAt 33 = .ok (.iaload, 1) := by decide +kernel
theorem dX6_numberAt_34 : decode cX6_numberAt 34 = .ok (.iadd, 1) := by decide +kernel
theorem dX6_numberAt_35 : decode cX6_numberAt 35 = .ok (.bipush 48, 2) := by decide +kernel
theorem dX6_numberAt_37 : decode cX6_numberAt 37 = .ok (.isub, 1) := by decide +kernel
theorem dX6_numberAt_38 : decode cX6_numberAt 38 = .ok (.istore_n 3, 1) := by decide +kernel
theorem dX6_numberAt_39 : decode cX6_numberAt 39 = .ok (.iinc 4 1, 3) := by decide +kernel
theorem dX6_numberAt_42 : decode cX6_numberAt 42 = .ok (.goto (-25), 3) := by decide +kernel
theorem dX6_numberAt_45 : decode cX6_numberAt 45 = .ok (.iload_n 3, 1) := by decide +kernel
theorem dX6_numberAt_46 : decode cX6_numberAt 46 = .ok (.ireturn, 1) := by decide +kernel
def rmX6_numberAt : Room := { frames := 1, cells := 0, slots := 0, locals := 24 }
def lpX6_numberAt_17 (M : zM) (o0 : Nat) (x1 : Int32) (r4 : Int32) (Q : Int32 → Prop) : Nat → Int32 → Int32 → Prop
  | 0, _, _ => False
  | fu17 + 1, x5, x6 =>
    (((x1 + (zmin (2 : Int32) r4)) ≤ x6) → (
    Q x5)) ∧
    ((¬ (x1 + (zmin (2 : Int32) r4)) ≤ x6) → (
    vp_in x6 120 ∧
    ∀ x7 : Int32, x7 = ((x5 * (10 : Int32)) + (M (o0 + 1) x6.toNatClampNeg)) →
    ∀ x8 : Int32, x8 = x6 + (1 : Int32) →
    lpX6_numberAt_17 M o0 x1 r4 Q fu17 (x7 - (48 : Int32)) x8))
def wX6_numberAt (M : zM) (o0 : Nat) (x1 : Int32) (Q : Int32 → Prop) : Prop :=
    wX6_figuresAt M o0 x1 (fun r4 =>
    ∃ fu17 : Nat, lpX6_numberAt_17 M o0 x1 r4 Q fu17 (0 : Int32) x1)
set_option maxHeartbeats 4000000 in
set_option maxRecDepth 100000 in
theorem kX6_numberAt {l : Launch} {D : va_G} {Y : zY} {ad kd : Nat → Nat} {RL : List Nat} {M : zM} {J : zL} {o0 : Nat} {x1 : Int32} (h_o0 : kd o0 = 6) {Q : Int32 → Prop} (hq : wX6_numberAt M o0 x1 Q) : zCi l yX6_numberAt wsX6_numberAt rmX6_numberAt [.ref (ad o0), .int x1] D Y ad kd RL M J (fun r M' J' => Q r ∧ M = M' ∧ J = J') := by
  refine z_meti (cc := cX6_numberAt) (maxL := 5) (ret := (some .int)) (by decide) rfl (Nat.le_of_ble_eq_true rfl) ?_
  intro p e s m below meth c ls A ar QE hQE hx hb hr hml hown hts hlk hw hl
  have hown : s.vm.findClass RX6 = some m.cls := hown
  have hl : lv_has ls 5 [(0, .ref (ad o0)), (1, .int x1)] := hl
  have hC := hw.2.2.2.2.2.1
  have g6 : ∀ w ∈ wsX60, w.before ar s = true := (fun w h => hts w (List.mem_cons_of_mem _ (List.mem_append_right _ h)))
  have q1 := hts _ (List.mem_of_getElem? (i := 1) rfl)
  have q2 := hts _ (List.mem_of_getElem? (i := 2) rfl)
  have q3 := hts _ (List.mem_of_getElem? (i := 3) rfl)
  have q4 := hts _ (List.mem_of_getElem? (i := 4) rfl)
  have q5 := hts _ (List.mem_of_getElem? (i := 5) rfl)
  unfold wX6_numberAt at hq
  refine lv_iload_n hx hb dX6_numberAt_0 rfl (lv_at hl 1 rfl) ?_
  refine lv_iconst (v := (2 : Int32)) hx hb dX6_numberAt_1 (by decide) ?_
  refine lv_aload_n hx hb dX6_numberAt_2 rfl (lv_at hl 0 rfl) ?_
  refine lv_iload_n hx hb dX6_numberAt_3 rfl (lv_at hl 1 rfl) ?_
  refine z_cvi ⟨hx, hb, hml, hown, hts⟩ hw h_o0 (kX6_figuresAt h_o0 hq) (by decide) rfl (cwV 1 hts gX6_numberAt_X6_figuresAt rfl rfl rfl (by decide +kernel) ⟨Nat.le_of_ble_eq_true rfl, Nat.le_of_ble_eq_true rfl⟩) rfl hl.1 rfl (Nat.le_of_ble_eq_true rfl) dX6_numberAt_4 ⟨Nat.zero_le _, Nat.zero_le _⟩ (fun r4 M0 J0 H locs hq hw => ?_)
  obtain ⟨hq, rfl, rfl⟩ := hq
  refine va_mmin hx hb (hml.trans hl.1.symm) hown q1 q2 q3 q4 (Nat.le_of_ble_eq_true rfl) (Nat.le_of_ble_eq_true rfl) (Nat.zero_le _) (Nat.zero_le _) dX6_numberAt_7 ?_
  refine lv_iadd hx hb dX6_numberAt_10 ?_
  refine lv_istore_n (lv' := [(2, .int (x1 + (zmin (2 : Int32) r4))), (0, .ref (ad o0)), (1, .int x1)]) hx hb dX6_numberAt_11 rfl hl (by decide) rfl (fun ls hl => ?_)
  refine lv_iconst (v := (0 : Int32)) hx hb dX6_numberAt_12 (by decide) ?_
  refine lv_istore_n (lv' := [(3, .int (0 : Int32)), (2, .int (x1 + (zmin (2 : Int32) r4))), (0, .ref (ad o0)), (1, .int x1)]) hx hb dX6_numberAt_13 rfl hl (by decide) rfl (fun ls hl => ?_)
  refine lv_iload_n hx hb dX6_numberAt_14 rfl (lv_at hl 3 rfl) ?_
  refine lv_istore (lv' := [(4, .int x1), (3, .int (0 : Int32)), (2, .int (x1 + (zmin (2 : Int32) r4))), (0, .ref (ad o0)), (1, .int x1)]) hx hb dX6_numberAt_15 hl (by decide) rfl (fun ls hl => ?_)
  obtain ⟨fu17, hq⟩ := hq
  have lp17 : ∀ (fu17 : Nat) (x5 : Int32) (x6 : Int32) (H : Heap) (locs : List Loc) (ls : Array Slot), lpX6_numberAt_17 M o0 x1 r4 Q fu17 x5 x6 → zH D Y ad kd RL M J A s.heap H locs s → lv_has ls 5 [(0, .ref (ad o0)), (2, .int (x1 + (zmin (2 : Int32) r4))), (3, .int x5), (4, .int x6)] → W p l e rmX6_numberAt s m ar below meth c H locs 0 0 QE (F0 m 17 ls []) := by
    intro fu17
    induction fu17 with
    | zero => intro x5 x6 H locs ls hq; exact hq.elim
    | succ fu17 ih17 =>
      intro x5 x6 H locs ls hq hw hl
      unfold lpX6_numberAt_17 at hq
      refine lv_iload hx hb dX6_numberAt_17 (lv_at hl 3 rfl) ?_
      refine lv_iload_n hx hb dX6_numberAt_19 rfl (lv_at hl 1 rfl) ?_
      refine lv_icmp_ge (tgt := 45) hx hb dX6_numberAt_20 (by decide) (fun hc => ?_) (fun hc => ?_)
      · have hq := hq.1 hc
        refine lv_iload_n hx hb dX6_numberAt_45 rfl (lv_at hl 2 rfl) ?_
        exact z_iret hQE hx hb hr hlk hw dX6_numberAt_46 ⟨hq, rfl, rfl⟩
      · have hq := hq.2 hc
        refine lv_iload_n hx hb dX6_numberAt_23 rfl (lv_at hl 2 rfl) ?_
        refine lv_bipush (v := (10 : Int32)) hx hb dX6_numberAt_24 (by decide) ?_
        refine lv_imul hx hb dX6_numberAt_26 ?_
        refine lv_aload_n hx hb dX6_numberAt_27 rfl (lv_at hl 0 rfl) ?_
        refine zg6_bytes hx hb g6 hown hw h_o0 q5 dX6_numberAt_28 ?_
        refine lv_iload hx hb dX6_numberAt_31 (lv_at hl 3 rfl) ?_
        obtain ⟨hi, hq⟩ := hq
        refine z_iald (n := 120) hx hb hw (zk_6_1 hC h_o0) hi dX6_numberAt_33 ?_
        refine lv_iadd hx hb dX6_numberAt_34 ?_
        refine lv_topi (fun x7 e_x7 => ?_)
        have hq := hq x7 e_x7
        refine lv_bipush (v := (48 : Int32)) hx hb dX6_numberAt_35 (by decide) ?_
        refine lv_isub hx hb dX6_numberAt_37 ?_
        refine lv_istore_n (lv' := [(3, .int (x7 - (48 : Int32))), (0, .ref (ad o0)), (2, .int (x1 + (zmin (2 : Int32) r4))), (4, .int x6)]) hx hb dX6_numberAt_38 rfl hl (by decide) rfl (fun ls hl => ?_)
        obtain ⟨x8, e_x8⟩ : ∃ y : Int32, y = x6 + (1 : Int32) := ⟨_, rfl⟩
        have hq := hq x8 e_x8
        refine lv_iinc (v := x8) (lv' := [(4, .int x8), (3, .int (x7 - (48 : Int32))), (0, .ref (ad o0)), (2, .int (x1 + (zmin (2 : Int32) r4)))]) hx hb dX6_numberAt_39 hl (k := 3) rfl (by rw [e_x8]; rfl) (by decide) rfl (fun ls hl => ?_)
        refine lv_goto (tgt := 17) hx hb dX6_numberAt_42 (by decide) ?_
        exact ih17 (x7 - (48 : Int32)) x8 _ _ _ hq hw (lv_sub hl [2, 3, 1, 0] rfl)
  exact lp17 fu17 (0 : Int32) x1 _ _ _ hq hw (lv_sub hl [3, 2, 1, 0] rfl)
set_option maxRecDepth 20000 in
theorem ggX6_faultOfNumber_X6_figuresAt : GoodIn wsX6_faultOfNumber wsX6_figuresAt := goodIn_r _ [5, 6, 7, 16, 17, 18, 19] (by decide +kernel) (by decide +kernel)
set_option maxRecDepth 20000 in
theorem gX6_faultOfNumber_X6_figuresAt : GoodIn wsX6_faultOfNumber (wsV RX6 49 RX6 yX6_figuresAt wsX6_figuresAt) := goodIn_app (goodIn_of _ (by decide +kernel)) ggX6_faultOfNumber_X6_figuresAt
set_option maxRecDepth 20000 in
theorem ggX6_faultOfNumber_X6_numberAt : GoodIn wsX6_faultOfNumber wsX6_numberAt := goodIn_r _ [11, 12, 13, 14, 15, 7, 1, 2, 3, 4, 5, 6, 16, 17, 18, 19] (by decide +kernel) (by decide +kernel)
set_option maxRecDepth 20000 in
theorem gX6_faultOfNumber_X6_numberAt : GoodIn wsX6_faultOfNumber (wsV RX6 42 RX6 yX6_numberAt wsX6_numberAt) := goodIn_app (goodIn_of _ (by decide +kernel)) ggX6_faultOfNumber_X6_numberAt
theorem dX6_faultOfNumber_0 : decode cX6_faultOfNumber 0 = .ok (.aload_n 0, 1) := by decide +kernel
theorem dX6_faultOfNumber_1 : decode cX6_faultOfNumber 1 = .ok (.iload_n 1, 1) := by decide +kernel
theorem dX6_faultOfNumber_2 : decode cX6_faultOfNumber 2 = .ok (.invokevirtual 49, 3) := by decide +kernel
theorem dX6_faultOfNumber_5 : decode cX6_faultOfNumber 5 = .ok (.istore_n 3, 1) := by decide +kernel
theorem dX6_faultOfNumber_6 : decode cX6_faultOfNumber 6 = .ok (.iload_n 3, 1) := by decide +kernel
theorem dX6_faultOfNumber_7 : decode cX6_faultOfNumber 7 = .ok (.ifCond .eq 8, 3) := by decide +kernel
theorem dX6_faultOfNumber_10 : decode cX6_faultOfNumber 10 = .ok (.iload_n 3, 1) := by decide +kernel
theorem dX6_faultOfNumber_11 : decode cX6_faultOfNumber 11 = .ok (.iconst 2, 1) := by decide +kernel
theorem dX6_faultOfNumber_12 : decode cX6_faultOfNumber 12 = .ok (.if_icmp .le 5, 3) := by decide +kernel
theorem dX6_faultOfNumber_15 : decode cX6_faultOfNumber 15 = .ok (.iconst 1, 1) := by decide +kernel
theorem dX6_faultOfNumber_16 : decode cX6_faultOfNumber 16 = .ok (.ireturn, 1) := by decide +kernel
theorem dX6_faultOfNumber_17 : decode cX6_faultOfNumber 17 = .ok (.aload_n 0, 1) := by decide +kernel
theorem dX6_faultOfNumber_18 : decode cX6_faultOfNumber 18 = .ok (.iload_n 1, 1) := by decide +kernel
theorem dX6_faultOfNumber_19 : decode cX6_faultOfNumber 19 = .ok (.invokevirtual 42, 3) := by decide +kernel
theorem dX6_faultOfNumber_22 : decode cX6_faultOfNumber 22 = .ok (.iload_n 2, 1) := by decide +kernel
theorem dX6_faultOfNumber_23 : decode cX6_faultOfNumber 23 = .ok (.if_icmp .le 7, 3) := by decide +kernel
theorem dX6_faultOfNumber_26 : decode cX6_faultOfNumber 26 = .ok (.iconst 2, 1) := by decide +kernel
theorem dX6_faultOfNumber_27 : decode cX6_faultOfNumber 27 = .ok (.goto 4, 3) := by decide +kernel
theorem dX6_faultOfNumber_30 : decode cX6_faultOfNumber 30 = .ok (.iconst 0, 1) := by decide +kernel
theorem dX6_faultOfNumber_31 : decode cX6_faultOfNumber 31 = .ok (.ireturn, 1) := by decide +kernel
def rmX6_faultOfNumber : Room := { frames := 2, cells := 0, slots := 0, locals := 48 }
def wX6_faultOfNumber (M : zM) (o0 : Nat) (x1 : Int32) (x2 : Int32) (Q : Int32 → Prop) : Prop :=
    wX6_figuresAt M o0 x1 (fun r5 =>
    ((r5 = 0) → (
    Q (1 : Int32))) ∧
    ((¬ r5 = 0) → (
    ((r5 ≤ (2 : Int32)) → (
    wX6_numberAt M o0 x1 (fun r6 =>
    ((r6 ≤ x2) → (
    Q (0 : Int32))) ∧
    ((¬ r6 ≤ x2) → (
    Q (2 : Int32)))))) ∧
    ((¬ r5 ≤ (2 : Int32)) → (
    Q (1 : Int32))))))
set_option maxHeartbeats 4000000 in
set_option maxRecDepth 100000 in
theorem kX6_faultOfNumber {l : Launch} {D : va_G} {Y : zY} {ad kd : Nat → Nat} {RL : List Nat} {M : zM} {J : zL} {o0 : Nat} {x1 : Int32} {x2 : Int32} (h_o0 : kd o0 = 6) {Q : Int32 → Prop} (hq : wX6_faultOfNumber M o0 x1 x2 Q) : zCi l yX6_faultOfNumber wsX6_faultOfNumber rmX6_faultOfNumber [.ref (ad o0), .int x1, .int x2] D Y ad kd RL M J (fun r M' J' => Q r ∧ M = M' ∧ J = J') := by
  refine z_meti (cc := cX6_faultOfNumber) (maxL := 4) (ret := (some .int)) (by decide) rfl (Nat.le_of_ble_eq_true rfl) ?_
  intro p e s m below meth c ls A ar QE hQE hx hb hr hml hown hts hlk hw hl
  have hown : s.vm.findClass RX6 = some m.cls := hown
  have hl : lv_has ls 4 [(0, .ref (ad o0)), (1, .int x1), (2, .int x2)] := hl
  have hC := hw.2.2.2.2.2.1
  unfold wX6_faultOfNumber at hq
  refine lv_aload_n hx hb dX6_faultOfNumber_0 rfl (lv_at hl 0 rfl) ?_
  refine lv_iload_n hx hb dX6_faultOfNumber_1 rfl (lv_at hl 1 rfl) ?_
  refine z_cvi ⟨hx, hb, hml, hown, hts⟩ hw h_o0 (kX6_figuresAt h_o0 hq) (by decide) rfl (cwV 1 hts gX6_faultOfNumber_X6_figuresAt rfl rfl rfl (by decide +kernel) ⟨Nat.le_of_ble_eq_true rfl, Nat.le_of_ble_eq_true rfl⟩) rfl hl.1 rfl (Nat.le_of_ble_eq_true rfl) dX6_faultOfNumber_2 ⟨Nat.zero_le _, Nat.zero_le _⟩ (fun r5 M0 J0 H locs hq hw => ?_)
  obtain ⟨hq, rfl, rfl⟩ := hq
  refine lv_istore_n (lv' := [(3, .int r5), (0, .ref (ad o0)), (1, .int x1), (2, .int x2)]) hx hb dX6_faultOfNumber_5 rfl hl (by decide) rfl (fun ls hl => ?_)
  refine lv_iload_n hx hb dX6_faultOfNumber_6 rfl (lv_at hl 0 rfl) ?_
  refine lv_if_eq (tgt := 15) hx hb dX6_faultOfNumber_7 (by decide) (fun hc => ?_) (fun hc => ?_)
  · have hq := hq.1 hc
    refine lv_iconst (v := (1 : Int32)) hx hb dX6_faultOfNumber_15 (by decide) ?_
    exact z_iret hQE hx hb hr hlk hw dX6_faultOfNumber_16 ⟨hq, rfl, rfl⟩
  · have hq := hq.2 hc
    refine lv_iload_n hx hb dX6_faultOfNumber_10 rfl (lv_at hl 0 rfl) ?_
    refine lv_iconst (v := (2 : Int32)) hx hb dX6_faultOfNumber_11 (by decide) ?_
    refine lv_icmp_le (tgt := 17) hx hb dX6_faultOfNumber_12 (by decide) (fun hc => ?_) (fun hc => ?_)
    · have hq := hq.1 hc
      refine lv_aload_n hx hb dX6_faultOfNumber_17 rfl (lv_at hl 1 rfl) ?_
      refine lv_iload_n hx hb dX6_faultOfNumber_18 rfl (lv_at hl 2 rfl) ?_
      refine z_cvi ⟨hx, hb, hml, hown, hts⟩ hw h_o0 (kX6_numberAt h_o0 hq) (by decide) rfl (cwV 1 hts gX6_faultOfNumber_X6_numberAt rfl rfl rfl (by decide +kernel) ⟨Nat.le_of_ble_eq_true rfl, Nat.le_of_ble_eq_true rfl⟩) rfl hl.1 rfl (Nat.le_of_ble_eq_true rfl) dX6_faultOfNumber_19 ⟨Nat.zero_le _, Nat.zero_le _⟩ (fun r6 M0 J0 H locs hq hw => ?_)
      obtain ⟨hq, rfl, rfl⟩ := hq
      refine lv_iload_n hx hb dX6_faultOfNumber_22 rfl (lv_at hl 3 rfl) ?_
      refine lv_icmp_le (tgt := 30) hx hb dX6_faultOfNumber_23 (by decide) (fun hc => ?_) (fun hc => ?_)
      · have hq := hq.1 hc
        refine lv_iconst (v := (0 : Int32)) hx hb dX6_faultOfNumber_30 (by decide) ?_
        exact z_iret hQE hx hb hr hlk hw dX6_faultOfNumber_31 ⟨hq, rfl, rfl⟩
      · have hq := hq.2 hc
        refine lv_iconst (v := (2 : Int32)) hx hb dX6_faultOfNumber_26 (by decide) ?_
        refine lv_goto (tgt := 31) hx hb dX6_faultOfNumber_27 (by decide) ?_
        exact z_iret hQE hx hb hr hlk hw dX6_faultOfNumber_31 ⟨hq, rfl, rfl⟩
    · have hq := hq.2 hc
      refine lv_iconst (v := (1 : Int32)) hx hb dX6_faultOfNumber_15 (by decide) ?_
      exact z_iret hQE hx hb hr hlk hw dX6_faultOfNumber_16 ⟨hq, rfl, rfl⟩
theorem dX6_kindOf_0 : decode cX6_kindOf 0 = .ok (.iload_n 0, 1) := by decide +kernel
theorem dX6_kindOf_1 : decode cX6_kindOf 1 = .ok (.lookupswitch 61 #[(98, 57), (101, 59), (106, 55), (112, 51), (115, 53)], 51) := by decide +kernel
theorem dX6_kindOf_52 : decode cX6_kindOf 52 = .ok (.iconst 1, 1) := by decide +kernel
theorem dX6_kindOf_53 : decode cX6_kindOf 53 = .ok (.ireturn, 1) := by decide +kernel
theorem dX6_kindOf_54 : decode cX6_kindOf 54 = .ok (.iconst 2, 1) := by decide +kernel
theorem dX6_kindOf_55 : decode cX6_kindOf 55 = .ok (.ireturn, 1) := by decide +kernel
theorem dX6_kindOf_56 : decode cX6_kindOf 56 = .ok (.iconst 3, 1) := by decide +kernel
theorem dX6_kindOf_57 : decode cX6_kindOf 57 = .ok (.ireturn, 1) := by decide +kernel
theorem dX6_kindOf_58 : decode cX6_kindOf 58 = .ok (.iconst 4, 1) := by decide +kernel
theorem dX6_kindOf_59 : decode cX6_kindOf 59 = .ok (.ireturn, 1) := by decide +kernel
theorem dX6_kindOf_60 : decode cX6_kindOf 60 = .ok (.iconst 5, 1) := by decide +kernel
theorem dX6_kindOf_61 : decode cX6_kindOf 61 = .ok (.ireturn, 1) := by decide +kernel
theorem dX6_kindOf_62 : decode cX6_kindOf 62 = .ok (.iconst 0, 1) := by decide +kernel
theorem dX6_kindOf_63 : decode cX6_kindOf 63 = .ok (.ireturn, 1) := by decide +kernel
def rmX6_kindOf : Room := { frames := 0, cells := 0, slots := 0, locals := 0 }
def wX6_kindOf (M : zM) (x0 : Int32) (Q : Int32 → Prop) : Prop :=
    ((x0.toInt = 98) → (
    Q (4 : Int32))) ∧
    ((x0.toInt = 101) → (
    Q (5 : Int32))) ∧
    ((x0.toInt = 106) → (
    Q (3 : Int32))) ∧
    ((x0.toInt = 112) → (
    Q (1 : Int32))) ∧
    ((x0.toInt = 115) → (
    Q (2 : Int32))) ∧
    ((¬ x0.toInt = 98 ∧ ¬ x0.toInt = 101 ∧ ¬ x0.toInt = 106 ∧ ¬ x0.toInt = 112 ∧ ¬ x0.toInt = 115) → (
    Q (0 : Int32)))
set_option maxHeartbeats 4000000 in
set_option maxRecDepth 100000 in
theorem kX6_kindOf {l : Launch} {D : va_G} {Y : zY} {ad kd : Nat → Nat} {RL : List Nat} {M : zM} {J : zL} {x0 : Int32}  {Q : Int32 → Prop} (hq : wX6_kindOf M x0 Q) : zCi l yX6_kindOf wsX6_kindOf rmX6_kindOf [.int x0] D Y ad kd RL M J (fun r M' J' => Q r ∧ M = M' ∧ J = J') := by
  refine z_meti (cc := cX6_kindOf) (maxL := 1) (ret := (some .int)) (by decide) rfl (Nat.le_of_ble_eq_true rfl) ?_
  intro p e s m below meth c ls A ar QE hQE hx hb hr hml hown hts hlk hw hl
  have hown : s.vm.findClass RX6 = some m.cls := hown
  have hl : lv_has ls 1 [(0, .int x0)] := hl
  have hC := hw.2.2.2.2.2.1
  unfold wX6_kindOf at hq
  refine lv_iload_n hx hb dX6_kindOf_0 rfl (lv_at hl 0 rfl) ?_
  by_cases hn0 : x0.toInt = 98
  · refine lv_lookup (off := 57) (tgt := 58) hx hb dX6_kindOf_1 (by decide) (by rw [hn0]; rfl) (by decide) ?_
    have hq := hq.1 hn0
    refine lv_iconst (v := (4 : Int32)) hx hb dX6_kindOf_58 (by decide) ?_
    exact z_iret hQE hx hb hr hlk hw dX6_kindOf_59 ⟨hq, rfl, rfl⟩
  · by_cases hn1 : x0.toInt = 101
    · refine lv_lookup (off := 59) (tgt := 60) hx hb dX6_kindOf_1 (by decide) (by rw [hn1]; rfl) (by decide) ?_
      have hq := hq.2.1 hn1
      refine lv_iconst (v := (5 : Int32)) hx hb dX6_kindOf_60 (by decide) ?_
      exact z_iret hQE hx hb hr hlk hw dX6_kindOf_61 ⟨hq, rfl, rfl⟩
    · by_cases hn2 : x0.toInt = 106
      · refine lv_lookup (off := 55) (tgt := 56) hx hb dX6_kindOf_1 (by decide) (by rw [hn2]; rfl) (by decide) ?_
        have hq := hq.2.2.1 hn2
        refine lv_iconst (v := (3 : Int32)) hx hb dX6_kindOf_56 (by decide) ?_
        exact z_iret hQE hx hb hr hlk hw dX6_kindOf_57 ⟨hq, rfl, rfl⟩
      · by_cases hn3 : x0.toInt = 112
        · refine lv_lookup (off := 51) (tgt := 52) hx hb dX6_kindOf_1 (by decide) (by rw [hn3]; rfl) (by decide) ?_
          have hq := hq.2.2.2.1 hn3
          refine lv_iconst (v := (1 : Int32)) hx hb dX6_kindOf_52 (by decide) ?_
          exact z_iret hQE hx hb hr hlk hw dX6_kindOf_53 ⟨hq, rfl, rfl⟩
        · by_cases hn4 : x0.toInt = 115
          · refine lv_lookup (off := 53) (tgt := 54) hx hb dX6_kindOf_1 (by decide) (by rw [hn4]; rfl) (by decide) ?_
            have hq := hq.2.2.2.2.1 hn4
            refine lv_iconst (v := (2 : Int32)) hx hb dX6_kindOf_54 (by decide) ?_
            exact z_iret hQE hx hb hr hlk hw dX6_kindOf_55 ⟨hq, rfl, rfl⟩
          · refine lv_lookup (off := 61) (tgt := 62) hx hb dX6_kindOf_1 (by decide) (by simp [Op.lookupswitch.offset, show ¬ (98 : Int) = x0.toInt from fun h => hn0 h.symm, show ¬ (101 : Int) = x0.toInt from fun h => hn1 h.symm, show ¬ (106 : Int) = x0.toInt from fun h => hn2 h.symm, show ¬ (112 : Int) = x0.toInt from fun h => hn3 h.symm, show ¬ (115 : Int) = x0.toInt from fun h => hn4 h.symm]) (by decide) ?_
            have hq := hq.2.2.2.2.2 ⟨hn0, hn1, hn2, hn3, hn4⟩
            refine lv_iconst (v := (0 : Int32)) hx hb dX6_kindOf_62 (by decide) ?_
            exact z_iret hQE hx hb hr hlk hw dX6_kindOf_63 ⟨hq, rfl, rfl⟩
set_option maxRecDepth 20000 in
theorem ggX6_faultAt_X6_kindOf : GoodIn wsX6_faultAt wsX6_kindOf := goodIn_r _ [6] (by decide +kernel) (by decide +kernel)
set_option maxRecDepth 20000 in
theorem gX6_faultAt_X6_kindOf : GoodIn wsX6_faultAt (va_wsS RX6 38 yX6_kindOf wsX6_kindOf) := goodIn_app (goodIn_of _ (by decide +kernel)) ggX6_faultAt_X6_kindOf
set_option maxRecDepth 20000 in
theorem ggX6_faultAt_X6_faultOfNumber : GoodIn wsX6_faultAt wsX6_faultOfNumber := goodIn_r _ [10, 11, 12, 13, 5, 14, 15, 1, 16, 17, 18, 19, 20, 21, 22, 23, 24, 25, 26, 27] (by decide +kernel) (by decide +kernel)
set_option maxRecDepth 20000 in
theorem gX6_faultAt_X6_faultOfNumber : GoodIn wsX6_faultAt (wsV RX6 61 RX6 yX6_faultOfNumber wsX6_faultOfNumber) := goodIn_app (goodIn_of _ (by decide +kernel)) ggX6_faultAt_X6_faultOfNumber
theorem dX6_faultAt_0 : decode cX6_faultAt 0 = .ok (.iload_n 2, 1) := by decide +kernel
theorem dX6_faultAt_1 : decode cX6_faultAt 1 = .ok (.tableswitch 92 0 3 #[31, 60, 75, 68], 31) := by decide +kernel
theorem dX6_faultAt_32 : decode cX6_faultAt 32 = .ok (.aload_n 0, 1) := by decide +kernel
theorem dX6_faultAt_33 : decode cX6_faultAt 33 = .ok (.getfield 9, 3) := by decide +kernel
theorem dX6_faultAt_36 : decode cX6_faultAt 36 = .ok (.iload_n 1, 1) := by decide +kernel
theorem dX6_faultAt_37 : decode cX6_faultAt 37 = .ok (.iaload, 1) := by decide +kernel
theorem dX6_faultAt_38 : decode cX6_faultAt 38 = .ok (.invokestatic 38, 3) := by decide +kernel
theorem dX6_faultAt_41 : decode cX6_faultAt 41 = .ok (.ifCond .ne 5, 3) := by decide +kernel
theorem dX6_faultAt_44 : decode cX6_faultAt 44 = .ok (.iconst 1, 1) := by decide +kernel
theorem dX6_faultAt_45 : decode cX6_faultAt 45 = .ok (.ireturn, 1) := by decide +kernel
theorem dX6_faultAt_46 : decode cX6_faultAt 46 = .ok (.aload_n 3, 1) := by decide +kernel
theorem dX6_faultAt_47 : decode cX6_faultAt 47 = .ok (.getfield 58, 3) := by decide +kernel
theorem dX6_faultAt_50 : decode cX6_faultAt 50 = .ok (.bipush 12, 2) := by decide +kernel
theorem dX6_faultAt_52 : decode cX6_faultAt 52 = .ok (.if_icmp .lt 7, 3) := by decide +kernel
theorem dX6_faultAt_55 : decode cX6_faultAt 55 = .ok (.iconst 3, 1) := by decide +kernel
theorem dX6_faultAt_56 : decode cX6_faultAt 56 = .ok (.goto 4, 3) := by decide +kernel
theorem dX6_faultAt_59 : decode cX6_faultAt 59 = .ok (.iconst 0, 1) := by decide +kernel
theorem dX6_faultAt_60 : decode cX6_faultAt 60 = .ok (.ireturn, 1) := by decide +kernel
theorem dX6_faultAt_61 : decode cX6_faultAt 61 = .ok (.aload_n 0, 1) := by decide +kernel
theorem dX6_faultAt_62 : decode cX6_faultAt 62 = .ok (.iload_n 1, 1) := by decide +kernel
theorem dX6_faultAt_63 : decode cX6_faultAt 63 = .ok (.bipush 60, 2) := by decide +kernel
theorem dX6_faultAt_65 : decode cX6_faultAt 65 = .ok (.invokevirtual 61, 3) := by decide +kernel
theorem dX6_faultAt_68 : decode cX6_faultAt 68 = .ok (.ireturn, 1) := by decide +kernel
theorem dX6_faultAt_69 : decode cX6_faultAt 69 = .ok (.aload_n 0, 1) := by decide +kernel
theorem dX6_faultAt_70 : decode cX6_faultAt 70 = .ok (.iload_n 1, 1) := by decide +kernel
theorem dX6_faultAt_71 : decode cX6_faultAt 71 = .ok (.iconst 3, 1) := by decide +kernel
theorem dX6_faultAt_72 : decode cX6_faultAt 72 = .ok (.invokevirtual 61, 3) := by decide +kernel
theorem dX6_faultAt_75 : decode cX6_faultAt 75 = .ok (.ireturn, 1) := by decide +kernel
theorem dX6_faultAt_76 : decode cX6_faultAt 76 = .ok (.aload_n 0, 1) := by decide +kernel
theorem dX6_faultAt_77 : decode cX6_faultAt 77 = .ok (.getfield 9, 3) := by decide +kernel
theorem dX6_faultAt_80 : decode cX6_faultAt 80 = .ok (.iload_n 1, 1) := by decide +kernel
theorem dX6_faultAt_81 : decode cX6_faultAt 81 = .ok (.iaload, 1) := by decide +kernel
theorem dX6_faultAt_82 : decode cX6_faultAt 82 = .ok (.bipush 44, 2) := by decide +kernel
theorem dX6_faultAt_84 : decode cX6_faultAt 84 = .ok (.if_icmp .ne 7, 3) := by decide +kernel
theorem dX6_faultAt_87 : decode cX6_faultAt 87 = .ok (.iconst 0, 1) := by decide +kernel
theorem dX6_faultAt_88 : decode cX6_faultAt 88 = .ok (.goto 4, 3) := by decide +kernel
theorem dX6_faultAt_91 : decode cX6_faultAt 91 = .ok (.iconst 1, 1) := by decide +kernel
theorem dX6_faultAt_92 : decode cX6_faultAt 92 = .ok (.ireturn, 1) := by decide +kernel
theorem dX6_faultAt_93 : decode cX6_faultAt 93 = .ok (.aload_n 0, 1) := by decide +kernel
theorem dX6_faultAt_94 : decode cX6_faultAt 94 = .ok (.getfield 9, 3) := by decide +kernel
theorem dX6_faultAt_97 : decode cX6_faultAt 97 = .ok (.iload_n 1, 1) := by decide +kernel
theorem dX6_faultAt_98 : decode cX6_faultAt 98 = .ok (.iaload, 1) := by decide +kernel
theorem dX6_faultAt_99 : decode cX6_faultAt 99 = .ok (.bipush 59, 2) := by decide +kernel
theorem dX6_faultAt_101 : decode cX6_faultAt 101 = .ok (.if_icmp .ne 7, 3) := by decide +kernel
theorem dX6_faultAt_104 : decode cX6_faultAt 104 = .ok (.iconst 0, 1) := by decide +kernel
theorem dX6_faultAt_105 : decode cX6_faultAt 105 = .ok (.goto 4, 3) := by decide +kernel
theorem dX6_faultAt_108 : decode cX6_faultAt 108 = .ok (.iconst 1, 1) := by decide +kernel
theorem dX6_faultAt_109 : decode cX6_faultAt 109 = .ok (.ireturn, 1) := by decide +kernel
def rmX6_faultAt : Room := { frames := 3, cells := 0, slots := 0, locals := 71 }
def wX6_faultAt (M : zM) (o0 : Nat) (x1 : Int32) (x2 : Int32) (o3 : Nat) (Q : Int32 → Prop) : Prop :=
    ((x2.toInt < 0 ∨ 3 < x2.toInt) → (
    vp_in x1 120 ∧
    ((¬ (M (o0 + 1) x1.toNatClampNeg) = (59 : Int32)) → (
    Q (1 : Int32))) ∧
    (((M (o0 + 1) x1.toNatClampNeg) = (59 : Int32)) → (
    Q (0 : Int32))))) ∧
    ((x2.toInt = 0) → (
    vp_in x1 120 ∧
    wX6_kindOf M (M (o0 + 1) x1.toNatClampNeg) (fun r6 =>
    ((¬ r6 = 0) → (
    (((M o3 0) < (12 : Int32)) → (
    Q (0 : Int32))) ∧
    ((¬ (M o3 0) < (12 : Int32)) → (
    Q (3 : Int32))))) ∧
    ((r6 = 0) → (
    Q (1 : Int32)))))) ∧
    ((x2.toInt = 1) → (
    wX6_faultOfNumber M o0 x1 (60 : Int32) (fun r7 =>
    Q r7))) ∧
    ((x2.toInt = 2) → (
    vp_in x1 120 ∧
    ((¬ (M (o0 + 1) x1.toNatClampNeg) = (44 : Int32)) → (
    Q (1 : Int32))) ∧
    (((M (o0 + 1) x1.toNatClampNeg) = (44 : Int32)) → (
    Q (0 : Int32))))) ∧
    ((x2.toInt = 3) → (
    wX6_faultOfNumber M o0 x1 (3 : Int32) (fun r8 =>
    Q r8)))
set_option maxHeartbeats 4000000 in
set_option maxRecDepth 100000 in
theorem kX6_faultAt {l : Launch} {D : va_G} {Y : zY} {ad kd : Nat → Nat} {RL : List Nat} {M : zM} {J : zL} {o0 : Nat} {x1 : Int32} {x2 : Int32} {o3 : Nat} (h_o0 : kd o0 = 6) (h_o3 : kd o3 = 2) {Q : Int32 → Prop} (hq : wX6_faultAt M o0 x1 x2 o3 Q) : zCi l yX6_faultAt wsX6_faultAt rmX6_faultAt [.ref (ad o0), .int x1, .int x2, .ref (ad o3)] D Y ad kd RL M J (fun r M' J' => Q r ∧ M = M' ∧ J = J') := by
  refine z_meti (cc := cX6_faultAt) (maxL := 4) (ret := (some .int)) (by decide) rfl (Nat.le_of_ble_eq_true rfl) ?_
  intro p e s m below meth c ls A ar QE hQE hx hb hr hml hown hts hlk hw hl
  have hown : s.vm.findClass RX6 = some m.cls := hown
  have hl : lv_has ls 4 [(0, .ref (ad o0)), (1, .int x1), (2, .int x2), (3, .ref (ad o3))] := hl
  have hC := hw.2.2.2.2.2.1
  have g2 : ∀ w ∈ wsX20, w.before ar s = true := (fun w h => hts w (List.mem_cons_of_mem _ (List.mem_append_right _ h)))
  have g6 : ∀ w ∈ wsX60, w.before ar s = true := (fun w h => hts w (List.mem_cons_of_mem _ (List.mem_append_left _ (List.mem_append_right _ h))))
  have q1 := hts _ (List.mem_of_getElem? (i := 1) rfl)
  have q2 := hts _ (List.mem_of_getElem? (i := 2) rfl)
  unfold wX6_faultAt at hq
  refine lv_iload_n hx hb dX6_faultAt_0 rfl (lv_at hl 2 rfl) ?_
  by_cases hsw : x2.toInt < 0 ∨ 3 < x2.toInt
  · refine lv_tableOut (tgt := 93) hx hb dX6_faultAt_1 hsw (by decide) ?_
    have hq := hq.1 hsw
    refine lv_aload_n hx hb dX6_faultAt_93 rfl (lv_at hl 0 rfl) ?_
    refine zg6_bytes hx hb g6 hown hw h_o0 q1 dX6_faultAt_94 ?_
    refine lv_iload_n hx hb dX6_faultAt_97 rfl (lv_at hl 1 rfl) ?_
    obtain ⟨hi, hq⟩ := hq
    refine z_iald (n := 120) hx hb hw (zk_6_1 hC h_o0) hi dX6_faultAt_98 ?_
    refine lv_bipush (v := (59 : Int32)) hx hb dX6_faultAt_99 (by decide) ?_
    refine lv_icmp_ne (tgt := 108) hx hb dX6_faultAt_101 (by decide) (fun hc => ?_) (fun hc => ?_)
    · have hq := hq.1 hc
      refine lv_iconst (v := (1 : Int32)) hx hb dX6_faultAt_108 (by decide) ?_
      exact z_iret hQE hx hb hr hlk hw dX6_faultAt_109 ⟨hq, rfl, rfl⟩
    · have hq := hq.2 hc
      refine lv_iconst (v := (0 : Int32)) hx hb dX6_faultAt_104 (by decide) ?_
      refine lv_goto (tgt := 109) hx hb dX6_faultAt_105 (by decide) ?_
      exact z_iret hQE hx hb hr hlk hw dX6_faultAt_109 ⟨hq, rfl, rfl⟩
  · have hq := hq.2
    rcases (show x2.toInt = 0 ∨ x2.toInt = 1 ∨ x2.toInt = 2 ∨ x2.toInt = 3 by omega) with hs | hs | hs | hs
    · refine lv_tableIn (off := 31) (tgt := 32) hx hb dX6_faultAt_1 (by omega) (by omega) (by rw [hs]; rfl) (by decide) ?_
      have hq := hq.1 hs
      refine lv_aload_n hx hb dX6_faultAt_32 rfl (lv_at hl 0 rfl) ?_
      refine zg6_bytes hx hb g6 hown hw h_o0 q1 dX6_faultAt_33 ?_
      refine lv_iload_n hx hb dX6_faultAt_36 rfl (lv_at hl 1 rfl) ?_
      obtain ⟨hi, hq⟩ := hq
      refine z_iald (n := 120) hx hb hw (zk_6_1 hC h_o0) hi dX6_faultAt_37 ?_
      refine z_csi ⟨hx, hb, hml, hown, hts⟩ hw (kX6_kindOf  hq) (va_cwS 1 hts gX6_faultAt_X6_kindOf rfl rfl rfl (by decide +kernel) ⟨Nat.le_of_ble_eq_true rfl, Nat.le_of_ble_eq_true rfl⟩) rfl hl.1 rfl (Nat.le_of_ble_eq_true rfl) dX6_faultAt_38 ⟨Nat.zero_le _, Nat.zero_le _⟩ (fun r6 M0 J0 H locs hq hw => ?_)
      obtain ⟨hq, rfl, rfl⟩ := hq
      refine lv_if_ne (tgt := 46) hx hb dX6_faultAt_41 (by decide) (fun hc => ?_) (fun hc => ?_)
      · have hq := hq.1 hc
        refine lv_aload_n hx hb dX6_faultAt_46 rfl (lv_at hl 3 rfl) ?_
        refine zg2_pegs hx hb g2 hown hw h_o3 q2 dX6_faultAt_47 ?_
        refine lv_bipush (v := (12 : Int32)) hx hb dX6_faultAt_50 (by decide) ?_
        refine lv_icmp_lt (tgt := 59) hx hb dX6_faultAt_52 (by decide) (fun hc => ?_) (fun hc => ?_)
        · have hq := hq.1 hc
          refine lv_iconst (v := (0 : Int32)) hx hb dX6_faultAt_59 (by decide) ?_
          exact z_iret hQE hx hb hr hlk hw dX6_faultAt_60 ⟨hq, rfl, rfl⟩
        · have hq := hq.2 hc
          refine lv_iconst (v := (3 : Int32)) hx hb dX6_faultAt_55 (by decide) ?_
          refine lv_goto (tgt := 60) hx hb dX6_faultAt_56 (by decide) ?_
          exact z_iret hQE hx hb hr hlk hw dX6_faultAt_60 ⟨hq, rfl, rfl⟩
      · have hq := hq.2 hc
        refine lv_iconst (v := (1 : Int32)) hx hb dX6_faultAt_44 (by decide) ?_
        exact z_iret hQE hx hb hr hlk hw dX6_faultAt_45 ⟨hq, rfl, rfl⟩
    · refine lv_tableIn (off := 60) (tgt := 61) hx hb dX6_faultAt_1 (by omega) (by omega) (by rw [hs]; rfl) (by decide) ?_
      have hq := hq.2.1 hs
      refine lv_aload_n hx hb dX6_faultAt_61 rfl (lv_at hl 0 rfl) ?_
      refine lv_iload_n hx hb dX6_faultAt_62 rfl (lv_at hl 1 rfl) ?_
      refine lv_bipush (v := (60 : Int32)) hx hb dX6_faultAt_63 (by decide) ?_
      refine z_cvi ⟨hx, hb, hml, hown, hts⟩ hw h_o0 (kX6_faultOfNumber h_o0 hq) (by decide) rfl (cwV 2 hts gX6_faultAt_X6_faultOfNumber rfl rfl rfl (by decide +kernel) ⟨Nat.le_of_ble_eq_true rfl, Nat.le_of_ble_eq_true rfl⟩) rfl hl.1 rfl (Nat.le_of_ble_eq_true rfl) dX6_faultAt_65 ⟨Nat.zero_le _, Nat.zero_le _⟩ (fun r7 M0 J0 H locs hq hw => ?_)
      obtain ⟨hq, rfl, rfl⟩ := hq
      exact z_iret hQE hx hb hr hlk hw dX6_faultAt_68 ⟨hq, rfl, rfl⟩
    · refine lv_tableIn (off := 75) (tgt := 76) hx hb dX6_faultAt_1 (by omega) (by omega) (by rw [hs]; rfl) (by decide) ?_
      have hq := hq.2.2.1 hs
      refine lv_aload_n hx hb dX6_faultAt_76 rfl (lv_at hl 0 rfl) ?_
      refine zg6_bytes hx hb g6 hown hw h_o0 q1 dX6_faultAt_77 ?_
      refine lv_iload_n hx hb dX6_faultAt_80 rfl (lv_at hl 1 rfl) ?_
      obtain ⟨hi, hq⟩ := hq
      refine z_iald (n := 120) hx hb hw (zk_6_1 hC h_o0) hi dX6_faultAt_81 ?_
      refine lv_bipush (v := (44 : Int32)) hx hb dX6_faultAt_82 (by decide) ?_
      refine lv_icmp_ne (tgt := 91) hx hb dX6_faultAt_84 (by decide) (fun hc => ?_) (fun hc => ?_)
      · have hq := hq.1 hc
        refine lv_iconst (v := (1 : Int32)) hx hb dX6_faultAt_91 (by decide) ?_
        exact z_iret hQE hx hb hr hlk hw dX6_faultAt_92 ⟨hq, rfl, rfl⟩
      · have hq := hq.2 hc
        refine lv_iconst (v := (0 : Int32)) hx hb dX6_faultAt_87 (by decide) ?_
        refine lv_goto (tgt := 92) hx hb dX6_faultAt_88 (by decide) ?_
        exact z_iret hQE hx hb hr hlk hw dX6_faultAt_92 ⟨hq, rfl, rfl⟩
    · refine lv_tableIn (off := 68) (tgt := 69) hx hb dX6_faultAt_1 (by omega) (by omega) (by rw [hs]; rfl) (by decide) ?_
      have hq := hq.2.2.2 hs
      refine lv_aload_n hx hb dX6_faultAt_69 rfl (lv_at hl 0 rfl) ?_
      refine lv_iload_n hx hb dX6_faultAt_70 rfl (lv_at hl 1 rfl) ?_
      refine lv_iconst (v := (3 : Int32)) hx hb dX6_faultAt_71 (by decide) ?_
      refine z_cvi ⟨hx, hb, hml, hown, hts⟩ hw h_o0 (kX6_faultOfNumber h_o0 hq) (by decide) rfl (cwV 2 hts gX6_faultAt_X6_faultOfNumber rfl rfl rfl (by decide +kernel) ⟨Nat.le_of_ble_eq_true rfl, Nat.le_of_ble_eq_true rfl⟩) rfl hl.1 rfl (Nat.le_of_ble_eq_true rfl) dX6_faultAt_72 ⟨Nat.zero_le _, Nat.zero_le _⟩ (fun r8 M0 J0 H locs hq hw => ?_)
      obtain ⟨hq, rfl, rfl⟩ := hq
      exact z_iret hQE hx hb hr hlk hw dX6_faultAt_75 ⟨hq, rfl, rfl⟩
theorem dX6_fail_0 : decode cX6_fail 0 = .ok (.aload_n 0, 1) := by decide +kernel
theorem dX6_fail_1 : decode cX6_fail 1 = .ok (.iload_n 1, 1) := by decide +kernel
theorem dX6_fail_2 : decode cX6_fail 2 = .ok (.putfield 19, 3) := by decide +kernel
theorem dX6_fail_5 : decode cX6_fail 5 = .ok (.aload_n 0, 1) := by decide +kernel
theorem dX6_fail_6 : decode cX6_fail 6 = .ok (.iload_n 2, 1) := by decide +kernel
theorem dX6_fail_7 : decode cX6_fail 7 = .ok (.putfield 22, 3) := by decide +kernel
theorem dX6_fail_10 : decode cX6_fail 10 = .ok (.iconst 0, 1) := by decide +kernel
theorem dX6_fail_11 : decode cX6_fail 11 = .ok (.ireturn, 1) := by decide +kernel
def rmX6_fail : Room := { frames := 0, cells := 0, slots := 0, locals := 0 }
def wX6_fail (M : zM) (o0 : Nat) (x1 : Int32) (x2 : Int32) (Q : Int32 → zM → Prop) : Prop :=
    ∀ M5 : zM, M5 = va_up M o0 (upd (M o0) 1 x1) →
    ∀ M6 : zM, M6 = va_up M5 o0 (upd (M5 o0) 2 x2) →
    Q (0 : Int32) M6
set_option maxHeartbeats 4000000 in
set_option maxRecDepth 100000 in
theorem kX6_fail {l : Launch} {D : va_G} {Y : zY} {ad kd : Nat → Nat} {RL : List Nat} {M : zM} {J : zL} {o0 : Nat} {x1 : Int32} {x2 : Int32} (h_o0 : kd o0 = 6) {Q : Int32 → zM → Prop} (hq : wX6_fail M o0 x1 x2 Q) : zCi l yX6_fail wsX6_fail rmX6_fail [.ref (ad o0), .int x1, .int x2] D Y ad kd RL M J (fun r M' J' => Q r M' ∧ J = J') := by
  refine z_meti (cc := cX6_fail) (maxL := 3) (ret := (some .boolean)) (by decide) rfl (Nat.le_of_ble_eq_true rfl) ?_
  intro p e s m below meth c ls A ar QE hQE hx hb hr hml hown hts hlk hw hl
  have hown : s.vm.findClass RX6 = some m.cls := hown
  have hl : lv_has ls 3 [(0, .ref (ad o0)), (1, .int x1), (2, .int x2)] := hl
  have hC := hw.2.2.2.2.2.1
  have g6 : ∀ w ∈ wsX60, w.before ar s = true := (fun w h => hts w (List.mem_cons_of_mem _ (List.mem_append_right _ h)))
  have q1 := hts _ (List.mem_of_getElem? (i := 1) rfl)
  have q2 := hts _ (List.mem_of_getElem? (i := 2) rfl)
  unfold wX6_fail at hq
  refine lv_aload_n hx hb dX6_fail_0 rfl (lv_at hl 0 rfl) ?_
  refine lv_iload_n hx hb dX6_fail_1 rfl (lv_at hl 1 rfl) ?_
  refine zp6_fault hx hb g6 hown hw h_o0 q1 dX6_fail_2 (fun H locs hw => ?_)
  obtain ⟨M5, e_M5⟩ : ∃ y : zM, y = va_up M o0 (upd (M o0) 1 x1) := ⟨_, rfl⟩
  rw [← e_M5] at hw
  have hq := hq M5 e_M5
  refine lv_aload_n hx hb dX6_fail_5 rfl (lv_at hl 0 rfl) ?_
  refine lv_iload_n hx hb dX6_fail_6 rfl (lv_at hl 2 rfl) ?_
  refine zp6_faultPlace hx hb g6 hown hw h_o0 q2 dX6_fail_7 (fun H locs hw => ?_)
  obtain ⟨M6, e_M6⟩ : ∃ y : zM, y = va_up M5 o0 (upd (M5 o0) 2 x2) := ⟨_, rfl⟩
  rw [← e_M6] at hw
  have hq := hq M6 e_M6
  refine lv_iconst (v := (0 : Int32)) hx hb dX6_fail_10 (by decide) ?_
  exact z_zret hQE hx hb hr hlk hw dX6_fail_11 (by decide) ⟨hq, rfl⟩
set_option maxRecDepth 20000 in
theorem ggX6_parse_X2_clear : GoodIn wsX6_parse wsX2_clear := goodIn_r _ [12, 13, 14, 56, 57, 58, 59, 60, 61] (by decide +kernel) (by decide +kernel)
set_option maxRecDepth 20000 in
theorem gX6_parse_X2_clear : GoodIn wsX6_parse (wsV RX6 25 RX2 yX2_clear wsX2_clear) := goodIn_app (goodIn_of _ (by decide +kernel)) ggX6_parse_X2_clear
set_option maxRecDepth 20000 in
theorem ggX6_parse_X6_faultAt : GoodIn wsX6_parse wsX6_faultAt := goodIn_r _ [19, 2, 7, 20, 21, 18, 22, 23, 24, 25, 26, 27, 28, 29, 30, 1, 31, 32, 33, 34, 35, 36, 5, 37, 52, 53, 54, 55, 56, 57, 58, 59, 60, 61] (by decide +kernel) (by decide +kernel)
set_option maxRecDepth 20000 in
theorem gX6_parse_X6_faultAt : GoodIn wsX6_parse (wsV RX6 30 RX6 yX6_faultAt wsX6_faultAt) := goodIn_app (goodIn_of _ (by decide +kernel)) ggX6_parse_X6_faultAt
set_option maxRecDepth 20000 in
theorem ggX6_parse_X6_fail : GoodIn wsX6_parse wsX6_fail := goodIn_r _ [41, 42, 43, 52, 53, 54, 55] (by decide +kernel) (by decide +kernel)
set_option maxRecDepth 20000 in
theorem gX6_parse_X6_fail : GoodIn wsX6_parse (wsV RX6 34 RX6 yX6_fail wsX6_fail) := goodIn_app (goodIn_of _ (by decide +kernel)) ggX6_parse_X6_fail
set_option maxRecDepth 20000 in
theorem ggX6_parse_X6_kindOf : GoodIn wsX6_parse wsX6_kindOf := goodIn_r _ [22] (by decide +kernel) (by decide +kernel)
set_option maxRecDepth 20000 in
theorem gX6_parse_X6_kindOf : GoodIn wsX6_parse (va_wsS RX6 38 yX6_kindOf wsX6_kindOf) := goodIn_app (goodIn_of _ (by decide +kernel)) ggX6_parse_X6_kindOf
set_option maxRecDepth 20000 in
theorem ggX6_parse_X6_numberAt : GoodIn wsX6_parse wsX6_numberAt := goodIn_r _ [34, 35, 36, 5, 37, 2, 27, 28, 29, 18, 30, 1, 52, 53, 54, 55] (by decide +kernel) (by decide +kernel)
set_option maxRecDepth 20000 in
theorem gX6_parse_X6_numberAt : GoodIn wsX6_parse (wsV RX6 42 RX6 yX6_numberAt wsX6_numberAt) := goodIn_app (goodIn_of _ (by decide +kernel)) ggX6_parse_X6_numberAt
set_option maxRecDepth 20000 in
theorem ggX6_parse_X2_add : GoodIn wsX6_parse wsX2_add := goodIn_r _ [47, 13, 48, 49, 50, 51, 56, 57, 58, 59, 60, 61] (by decide +kernel) (by decide +kernel)
set_option maxRecDepth 20000 in
theorem gX6_parse_X2_add : GoodIn wsX6_parse (wsV RX6 45 RX2 yX2_add wsX2_add) := goodIn_app (goodIn_of _ (by decide +kernel)) ggX6_parse_X2_add
set_option maxRecDepth 20000 in
theorem ggX6_parse_X6_figuresAt : GoodIn wsX6_parse wsX6_figuresAt := goodIn_r _ [30, 1, 2, 52, 53, 54, 55] (by decide +kernel) (by decide +kernel)
set_option maxRecDepth 20000 in
theorem gX6_parse_X6_figuresAt : GoodIn wsX6_parse (wsV RX6 49 RX6 yX6_figuresAt wsX6_figuresAt) := goodIn_app (goodIn_of _ (by decide +kernel)) ggX6_parse_X6_figuresAt
theorem dX6_parse_0 : decode cX6_parse 0 = .ok (.aload_n 1, 1) := by decide +kernel
theorem dX6_parse_1 : decode cX6_parse 1 = .ok (.invokevirtual 25, 3) := by decide +kernel
theorem dX6_parse_4 : decode cX6_parse 4 = .ok (.iconst 0, 1) := by decide +kernel
theorem dX6_parse_5 : decode cX6_parse 5 = .ok (.istore_n 2, 1) := by decide +kernel
theorem dX6_parse_6 : decode cX6_parse 6 = .ok (.iconst 0, 1) := by decide +kernel
theorem dX6_parse_7 : decode cX6_parse 7 = .ok (.istore_n 3, 1) := by decide +kernel
theorem dX6_parse_8 : decode cX6_parse 8 = .ok (.iconst 0, 1) := by decide +kernel
theorem dX6_parse_9 : decode cX6_parse 9 = .ok (.istore 4, 2) := by decide +kernel
theorem dX6_parse_11 : decode cX6_parse 11 = .ok (.iconst 0, 1) := by decide +kernel
theorem dX6_parse_12 : decode cX6_parse 12 = .ok (.istore 5, 2) := by decide +kernel
theorem dX6_parse_14 : decode cX6_parse 14 = .ok (.iload 5, 2) := by decide +kernel
theorem dX6_parse_16 : decode cX6_parse 16 = .ok (.aload_n 0, 1) := by decide +kernel
theorem dX6_parse_17 : decode cX6_parse 17 = .ok (.getfield 15, 3) := by decide +kernel
theorem dX6_parse_20 : decode cX6_parse 20 = .ok (.if_icmp .ge 103, 3) := by decide +kernel
theorem dX6_parse_23 : decode cX6_parse 23 = .ok (.aload_n 0, 1) := by decide +kernel
theorem dX6_parse_24 : decode cX6_parse 24 = .ok (.iload 5, 2) := by decide +kernel
theorem dX6_parse_26 : decode cX6_parse 26 = .ok (.iload_n 2, 1) := by decide +kernel
theorem dX6_parse_27 : decode cX6_parse 27 = .ok (.aload_n 1, 1) := by decide +kernel
theorem dX6_parse_28 : decode cX6_parse 28 = .ok (.invokevirtual 30, 3) := by decide +kernel
theorem dX6_parse_31 : decode cX6_parse 31 = .ok (.istore 6, 2) := by decide +kernel
theorem dX6_parse_33 : decode cX6_parse 33 = .ok (.iload 6, 2) := by decide +kernel
theorem dX6_parse_35 : decode cX6_parse 35 = .ok (.ifCond .eq 12, 3) := by decide +kernel
theorem dX6_parse_38 : decode cX6_parse 38 = .ok (.aload_n 0, 1) := by decide +kernel
theorem dX6_parse_39 : decode cX6_parse 39 = .ok (.iload 6, 2) := by decide +kernel
theorem dX6_parse_41 : decode cX6_parse 41 = .ok (.iload 5, 2) := by decide +kernel
theorem dX6_parse_43 : decode cX6_parse 43 = .ok (.invokevirtual 34, 3) := by decide +kernel
theorem dX6_parse_46 : decode cX6_parse 46 = .ok (.ireturn, 1) := by decide +kernel
theorem dX6_parse_47 : decode cX6_parse 47 = .ok (.iload_n 2, 1) := by decide +kernel
theorem dX6_parse_48 : decode cX6_parse 48 = .ok (.ifCond .ne 17, 3) := by decide +kernel
theorem dX6_parse_51 : decode cX6_parse 51 = .ok (.aload_n 0, 1) := by decide +kernel
theorem dX6_parse_52 : decode cX6_parse 52 = .ok (.getfield 9, 3) := by decide +kernel
theorem dX6_parse_55 : decode cX6_parse 55 = .ok (.iload 5, 2) := by decide +kernel
theorem dX6_parse_57 : decode cX6_parse 57 = .ok (.iaload, 1) := by decide +kernel
theorem dX6_parse_58 : decode cX6_parse 58 = .ok (.invokestatic 38, 3) := by decide +kernel
theorem dX6_parse_61 : decode cX6_parse 61 = .ok (.istore_n 3, 1) := by decide +kernel
theorem dX6_parse_62 : decode cX6_parse 62 = .ok (.goto 37, 3) := by decide +kernel
theorem dX6_parse_65 : decode cX6_parse 65 = .ok (.iload_n 2, 1) := by decide +kernel
theorem dX6_parse_66 : decode cX6_parse 66 = .ok (.iconst 1, 1) := by decide +kernel
theorem dX6_parse_67 : decode cX6_parse 67 = .ok (.if_icmp .ne 14, 3) := by decide +kernel
theorem dX6_parse_70 : decode cX6_parse 70 = .ok (.aload_n 0, 1) := by decide +kernel
theorem dX6_parse_71 : decode cX6_parse 71 = .ok (.iload 5, 2) := by decide +kernel
theorem dX6_parse_73 : decode cX6_parse 73 = .ok (.invokevirtual 42, 3) := by decide +kernel
theorem dX6_parse_76 : decode cX6_parse 76 = .ok (.istore 4, 2) := by decide +kernel
theorem dX6_parse_78 : decode cX6_parse 78 = .ok (.goto 21, 3) := by decide +kernel
theorem dX6_parse_81 : decode cX6_parse 81 = .ok (.iload_n 2, 1) := by decide +kernel
theorem dX6_parse_82 : decode cX6_parse 82 = .ok (.iconst 3, 1) := by decide +kernel
theorem dX6_parse_83 : decode cX6_parse 83 = .ok (.if_icmp .ne 16, 3) := by decide +kernel
theorem dX6_parse_86 : decode cX6_parse 86 = .ok (.aload_n 1, 1) := by decide +kernel
theorem dX6_parse_87 : decode cX6_parse 87 = .ok (.iload_n 3, 1) := by decide +kernel
theorem dX6_parse_88 : decode cX6_parse 88 = .ok (.iload 4, 2) := by decide +kernel
theorem dX6_parse_90 : decode cX6_parse 90 = .ok (.aload_n 0, 1) := by decide +kernel
theorem dX6_parse_91 : decode cX6_parse 91 = .ok (.iload 5, 2) := by decide +kernel
theorem dX6_parse_93 : decode cX6_parse 93 = .ok (.invokevirtual 42, 3) := by decide +kernel
theorem dX6_parse_96 : decode cX6_parse 96 = .ok (.invokevirtual 45, 3) := by decide +kernel
theorem dX6_parse_99 : decode cX6_parse 99 = .ok (.iload_n 2, 1) := by decide +kernel
theorem dX6_parse_100 : decode cX6_parse 100 = .ok (.iconst 1, 1) := by decide +kernel
theorem dX6_parse_101 : decode cX6_parse 101 = .ok (.iadd, 1) := by decide +kernel
theorem dX6_parse_102 : decode cX6_parse 102 = .ok (.iconst 5, 1) := by decide +kernel
theorem dX6_parse_103 : decode cX6_parse 103 = .ok (.irem, 1) := by decide +kernel
theorem dX6_parse_104 : decode cX6_parse 104 = .ok (.istore_n 2, 1) := by decide +kernel
theorem dX6_parse_105 : decode cX6_parse 105 = .ok (.iload 5, 2) := by decide +kernel
theorem dX6_parse_107 : decode cX6_parse 107 = .ok (.iconst 1, 1) := by decide +kernel
theorem dX6_parse_108 : decode cX6_parse 108 = .ok (.aload_n 0, 1) := by decide +kernel
theorem dX6_parse_109 : decode cX6_parse 109 = .ok (.iload 5, 2) := by decide +kernel
theorem dX6_parse_111 : decode cX6_parse 111 = .ok (.invokevirtual 49, 3) := by decide +kernel
theorem dX6_parse_114 : decode cX6_parse 114 = .ok (.invokestatic 52, 3) := by decide +kernel
theorem dX6_parse_117 : decode cX6_parse 117 = .ok (.iadd, 1) := by decide +kernel
theorem dX6_parse_118 : decode cX6_parse 118 = .ok (.istore 5, 2) := by decide +kernel
theorem dX6_parse_120 : decode cX6_parse 120 = .ok (.goto (-106), 3) := by decide +kernel
theorem dX6_parse_123 : decode cX6_parse 123 = .ok (.iload_n 2, 1) := by decide +kernel
theorem dX6_parse_124 : decode cX6_parse 124 = .ok (.ifCond .ne 10, 3) := by decide +kernel
theorem dX6_parse_127 : decode cX6_parse 127 = .ok (.aload_n 1, 1) := by decide +kernel
theorem dX6_parse_128 : decode cX6_parse 128 = .ok (.getfield 58, 3) := by decide +kernel
theorem dX6_parse_131 : decode cX6_parse 131 = .ok (.ifCond .ne 13, 3) := by decide +kernel
theorem dX6_parse_134 : decode cX6_parse 134 = .ok (.aload_n 0, 1) := by decide +kernel
theorem dX6_parse_135 : decode cX6_parse 135 = .ok (.iconst 1, 1) := by decide +kernel
theorem dX6_parse_136 : decode cX6_parse 136 = .ok (.aload_n 0, 1) := by decide +kernel
theorem dX6_parse_137 : decode cX6_parse 137 = .ok (.getfield 15, 3) := by decide +kernel
theorem dX6_parse_140 : decode cX6_parse 140 = .ok (.invokevirtual 34, 3) := by decide +kernel
theorem dX6_parse_143 : decode cX6_parse 143 = .ok (.ireturn, 1) := by decide +kernel
theorem dX6_parse_144 : decode cX6_parse 144 = .ok (.aload_n 1, 1) := by decide +kernel
theorem dX6_parse_145 : decode cX6_parse 145 = .ok (.getfield 58, 3) := by decide +kernel
theorem dX6_parse_148 : decode cX6_parse 148 = .ok (.iconst 3, 1) := by decide +kernel
theorem dX6_parse_149 : decode cX6_parse 149 = .ok (.if_icmp .ge 15, 3) := by decide +kernel
theorem dX6_parse_152 : decode cX6_parse 152 = .ok (.aload_n 0, 1) := by decide +kernel
theorem dX6_parse_153 : decode cX6_parse 153 = .ok (.iconst 4, 1) := by decide +kernel
theorem dX6_parse_154 : decode cX6_parse 154 = .ok (.aload_n 0, 1) := by decide +kernel
theorem dX6_parse_155 : decode cX6_parse 155 = .ok (.getfield 15, 3) := by decide +kernel
theorem dX6_parse_158 : decode cX6_parse 158 = .ok (.invokevirtual 34, 3) := by decide +kernel
theorem dX6_parse_161 : decode cX6_parse 161 = .ok (.ifCond .eq 7, 3) := by decide +kernel
theorem dX6_parse_164 : decode cX6_parse 164 = .ok (.iconst 1, 1) := by decide +kernel
theorem dX6_parse_165 : decode cX6_parse 165 = .ok (.goto 4, 3) := by decide +kernel
theorem dX6_parse_168 : decode cX6_parse 168 = .ok (.iconst 0, 1) := by decide +kernel
theorem dX6_parse_169 : decode cX6_parse 169 = .ok (.ireturn, 1) := by decide +kernel
def rmX6_parse : Room := { frames := 4, cells := 0, slots := 0, locals := 94 }
def jnX6_parse_134 (o0 : Nat) (M14 : zM) (Q : Int32 → zM → Prop)  : Prop :=
    wX6_fail M14 o0 (1 : Int32) (M14 o0 0) (fun r17 M18 =>
    narrow .boolean (.int r17) = .int r17 ∧
    Q r17 M18)
def jnX6_parse_99 (o0 : Nat) (x5 : Int32) (x8 : Int32) (B14 : Int32 → Int32 → Int32 → Int32 → zM → Prop) (x26 : Int32) (x27 : Int32) (M28 : zM) : Prop :=
    ∀ x29 : Int32, x29 = ((x5 + (1 : Int32)) - (x5 + (1 : Int32)) / (5 : Int32) * (5 : Int32)) →
    wX6_figuresAt M28 o0 x8 (fun r30 =>
    B14 x29 x26 x27 (x8 + (zmax (1 : Int32) r30)) M28)
def lpX6_parse_14 (o0 : Nat) (o1 : Nat) (Q : Int32 → zM → Prop) (K14_123 : Int32 → Int32 → Int32 → Int32 → zM → Prop) : Nat → Int32 → Int32 → Int32 → Int32 → zM → Prop
  | 0, _, _, _, _, _ => False
  | fu14 + 1, x5, x6, x7, x8, M9 =>
    (((M9 o0 0) ≤ x8) → (
    K14_123 x5 x6 x7 x8 M9)) ∧
    ((¬ (M9 o0 0) ≤ x8) → (
    wX6_faultAt M9 o0 x8 x5 o1 (fun r21 =>
    ((r21 = 0) → (
    ((¬ x5 = 0) → (
    ((¬ x5 = (1 : Int32)) → (
    ((¬ x5 = (3 : Int32)) → (
    jnX6_parse_99 o0 x5 x8 (lpX6_parse_14 o0 o1 Q K14_123 fu14) x6 x7 M9)) ∧
    ((x5 = (3 : Int32)) → (
    wX6_numberAt M9 o0 x8 (fun r31 =>
    wX2_add M9 o1 x6 x7 r31 (fun M32 =>
    jnX6_parse_99 o0 x5 x8 (lpX6_parse_14 o0 o1 Q K14_123 fu14) x6 x7 M32)))))) ∧
    ((x5 = (1 : Int32)) → (
    wX6_numberAt M9 o0 x8 (fun r33 =>
    jnX6_parse_99 o0 x5 x8 (lpX6_parse_14 o0 o1 Q K14_123 fu14) x6 r33 M9))))) ∧
    ((x5 = 0) → (
    vp_in x8 120 ∧
    wX6_kindOf M9 (M9 (o0 + 1) x8.toNatClampNeg) (fun r34 =>
    jnX6_parse_99 o0 x5 x8 (lpX6_parse_14 o0 o1 Q K14_123 fu14) r34 x7 M9))))) ∧
    ((¬ r21 = 0) → (
    wX6_fail M9 o0 r21 x8 (fun r35 M36 =>
    narrow .boolean (.int r35) = .int r35 ∧
    Q r35 M36))))))
def wX6_parse (M : zM) (o0 : Nat) (o1 : Nat) (Q : Int32 → zM → Prop) : Prop :=
    wX2_clear M o1 (fun M4 =>
    ∃ fu14 : Nat, lpX6_parse_14 o0 o1 Q (fun x10 x11 x12 x13 M14 =>
    ((¬ x10 = 0) → (
    jnX6_parse_134 o0 M14 Q )) ∧
    ((x10 = 0) → (
    ((¬ (M14 o1 0) = 0) → (
    (((3 : Int32) ≤ (M14 o1 0)) → (
    Q (1 : Int32) M14)) ∧
    ((¬ (3 : Int32) ≤ (M14 o1 0)) → (
    wX6_fail M14 o0 (4 : Int32) (M14 o0 0) (fun r19 M20 =>
    ((r19 = 0) → (
    Q (0 : Int32) M20)) ∧
    ((¬ r19 = 0) → (
    Q (1 : Int32) M20))))))) ∧
    (((M14 o1 0) = 0) → (
    jnX6_parse_134 o0 M14 Q ))))) fu14 (0 : Int32) (0 : Int32) (0 : Int32) (0 : Int32) M4)
set_option maxHeartbeats 4000000 in
set_option maxRecDepth 100000 in
theorem kX6_parse {l : Launch} {D : va_G} {Y : zY} {ad kd : Nat → Nat} {RL : List Nat} {M : zM} {J : zL} {o0 : Nat} {o1 : Nat} (h_o0 : kd o0 = 6) (h_o1 : kd o1 = 2) {Q : Int32 → zM → Prop} (hq : wX6_parse M o0 o1 Q) : zCi l yX6_parse wsX6_parse rmX6_parse [.ref (ad o0), .ref (ad o1)] D Y ad kd RL M J (fun r M' J' => Q r M' ∧ J = J') := by
  refine z_meti (cc := cX6_parse) (maxL := 7) (ret := (some .boolean)) (by decide) rfl (Nat.le_of_ble_eq_true rfl) ?_
  intro p e s m below meth c ls A ar QE hQE hx hb hr hml hown hts hlk hw hl
  have hown : s.vm.findClass RX6 = some m.cls := hown
  have hl : lv_has ls 7 [(0, .ref (ad o0)), (1, .ref (ad o1))] := hl
  have hC := hw.2.2.2.2.2.1
  have g2 : ∀ w ∈ wsX20, w.before ar s = true := (fun w h => hts w (List.mem_cons_of_mem _ (List.mem_append_right _ h)))
  have g6 : ∀ w ∈ wsX60, w.before ar s = true := (fun w h => hts w (List.mem_cons_of_mem _ (List.mem_append_left _ (List.mem_append_right _ h))))
  have q1 := hts _ (List.mem_of_getElem? (i := 1) rfl)
  have q2 := hts _ (List.mem_of_getElem? (i := 2) rfl)
  have q3 := hts _ (List.mem_of_getElem? (i := 3) rfl)
  have q4 := hts _ (List.mem_of_getElem? (i := 4) rfl)
  have q5 := hts _ (List.mem_of_getElem? (i := 5) rfl)
  have q6 := hts _ (List.mem_of_getElem? (i := 6) rfl)
  have q7 := hts _ (List.mem_of_getElem? (i := 7) rfl)
  unfold wX6_parse at hq
  refine lv_aload_n hx hb dX6_parse_0 rfl (lv_at hl 1 rfl) ?_
  refine z_cvv ⟨hx, hb, hml, hown, hts⟩ hw h_o1 (kX2_clear h_o1 hq) (by decide) rfl (cwV 0 hts gX6_parse_X2_clear rfl rfl rfl (by decide +kernel) ⟨Nat.le_of_ble_eq_true rfl, Nat.le_of_ble_eq_true rfl⟩) rfl hl.1 rfl (Nat.le_of_ble_eq_true rfl) dX6_parse_1 ⟨Nat.zero_le _, Nat.zero_le _⟩ (fun M4 J0 H locs hq hw => ?_)
  obtain ⟨hq, rfl⟩ := hq
  refine lv_iconst (v := (0 : Int32)) hx hb dX6_parse_4 (by decide) ?_
  refine lv_istore_n (lv' := [(2, .int (0 : Int32)), (0, .ref (ad o0)), (1, .ref (ad o1))]) hx hb dX6_parse_5 rfl hl (by decide) rfl (fun ls hl => ?_)
  refine lv_iconst (v := (0 : Int32)) hx hb dX6_parse_6 (by decide) ?_
  refine lv_istore_n (lv' := [(3, .int (0 : Int32)), (2, .int (0 : Int32)), (0, .ref (ad o0)), (1, .ref (ad o1))]) hx hb dX6_parse_7 rfl hl (by decide) rfl (fun ls hl => ?_)
  refine lv_iconst (v := (0 : Int32)) hx hb dX6_parse_8 (by decide) ?_
  refine lv_istore (lv' := [(4, .int (0 : Int32)), (3, .int (0 : Int32)), (2, .int (0 : Int32)), (0, .ref (ad o0)), (1, .ref (ad o1))]) hx hb dX6_parse_9 hl (by decide) rfl (fun ls hl => ?_)
  refine lv_iconst (v := (0 : Int32)) hx hb dX6_parse_11 (by decide) ?_
  refine lv_istore (lv' := [(5, .int (0 : Int32)), (4, .int (0 : Int32)), (3, .int (0 : Int32)), (2, .int (0 : Int32)), (0, .ref (ad o0)), (1, .ref (ad o1))]) hx hb dX6_parse_12 hl (by decide) rfl (fun ls hl => ?_)
  have ex14_123 : ∀ (x10 : Int32) (x11 : Int32) (x12 : Int32) (x13 : Int32) (M14 : zM) (H : Heap) (locs : List Loc) (ls : Array Slot), (((¬ x10 = 0) → ( jnX6_parse_134 o0 M14 Q )) ∧ ((x10 = 0) → ( ((¬ (M14 o1 0) = 0) → ( (((3 : Int32) ≤ (M14 o1 0)) → ( Q (1 : Int32) M14)) ∧ ((¬ (3 : Int32) ≤ (M14 o1 0)) → ( wX6_fail M14 o0 (4 : Int32) (M14 o0 0) (fun r19 M20 => ((r19 = 0) → ( Q (0 : Int32) M20)) ∧ ((¬ r19 = 0) → ( Q (1 : Int32) M20))))))) ∧ (((M14 o1 0) = 0) → ( jnX6_parse_134 o0 M14 Q ))))) → zH D Y ad kd RL M14 J A s.heap H locs s → lv_has ls 7 [(0, .ref (ad o0)), (1, .ref (ad o1)), (2, .int x10)] → W p l e rmX6_parse s m ar below meth c H locs 0 0 QE (F0 m 123 ls []) := by
    intro x10 x11 x12 x13 M14 H locs ls hq hw hl
    refine lv_iload_n hx hb dX6_parse_123 rfl (lv_at hl 2 rfl) ?_
    have jn134 : ∀ (H : Heap) (locs : List Loc) (ls : Array Slot), jnX6_parse_134 o0 M14 Q  → zH D Y ad kd RL M14 J A s.heap H locs s → lv_has ls 7 [(0, .ref (ad o0))] → W p l e rmX6_parse s m ar below meth c H locs 0 0 QE (F0 m 134 ls []) := by
      intro  H locs ls hq hw hl
      unfold jnX6_parse_134 at hq
      refine lv_aload_n hx hb dX6_parse_134 rfl (lv_at hl 0 rfl) ?_
      refine lv_iconst (v := (1 : Int32)) hx hb dX6_parse_135 (by decide) ?_
      refine lv_aload_n hx hb dX6_parse_136 rfl (lv_at hl 0 rfl) ?_
      refine zg6_length hx hb g6 hown hw h_o0 q1 dX6_parse_137 ?_
      refine z_cvi ⟨hx, hb, hml, hown, hts⟩ hw h_o0 (kX6_fail h_o0 hq) (by decide) rfl (cwV 2 hts gX6_parse_X6_fail rfl rfl rfl (by decide +kernel) ⟨Nat.le_of_ble_eq_true rfl, Nat.le_of_ble_eq_true rfl⟩) rfl hl.1 rfl (Nat.le_of_ble_eq_true rfl) dX6_parse_140 ⟨Nat.zero_le _, Nat.zero_le _⟩ (fun r17 M18 J0 H locs hq hw => ?_)
      obtain ⟨hq, rfl⟩ := hq
      obtain ⟨hn, hq⟩ := hq
      exact z_zret hQE hx hb hr hlk hw dX6_parse_143 hn ⟨hq, rfl⟩
    refine lv_if_ne (tgt := 134) hx hb dX6_parse_124 (by decide) (fun hc => ?_) (fun hc => ?_)
    · have hq := hq.1 hc
      exact jn134  _ _ _ hq hw (lv_sub hl [0] rfl)
    · have hq := hq.2 hc
      refine lv_aload_n hx hb dX6_parse_127 rfl (lv_at hl 1 rfl) ?_
      refine zg2_pegs hx hb g2 hown hw h_o1 q7 dX6_parse_128 ?_
      refine lv_if_ne (tgt := 144) hx hb dX6_parse_131 (by decide) (fun hc => ?_) (fun hc => ?_)
      · have hq := hq.1 hc
        refine lv_aload_n hx hb dX6_parse_144 rfl (lv_at hl 1 rfl) ?_
        refine zg2_pegs hx hb g2 hown hw h_o1 q7 dX6_parse_145 ?_
        refine lv_iconst (v := (3 : Int32)) hx hb dX6_parse_148 (by decide) ?_
        refine lv_icmp_ge (tgt := 164) hx hb dX6_parse_149 (by decide) (fun hc => ?_) (fun hc => ?_)
        · have hq := hq.1 hc
          refine lv_iconst (v := (1 : Int32)) hx hb dX6_parse_164 (by decide) ?_
          refine lv_goto (tgt := 169) hx hb dX6_parse_165 (by decide) ?_
          exact z_zret hQE hx hb hr hlk hw dX6_parse_169 (by decide) ⟨hq, rfl⟩
        · have hq := hq.2 hc
          refine lv_aload_n hx hb dX6_parse_152 rfl (lv_at hl 0 rfl) ?_
          refine lv_iconst (v := (4 : Int32)) hx hb dX6_parse_153 (by decide) ?_
          refine lv_aload_n hx hb dX6_parse_154 rfl (lv_at hl 0 rfl) ?_
          refine zg6_length hx hb g6 hown hw h_o0 q1 dX6_parse_155 ?_
          refine z_cvi ⟨hx, hb, hml, hown, hts⟩ hw h_o0 (kX6_fail h_o0 hq) (by decide) rfl (cwV 2 hts gX6_parse_X6_fail rfl rfl rfl (by decide +kernel) ⟨Nat.le_of_ble_eq_true rfl, Nat.le_of_ble_eq_true rfl⟩) rfl hl.1 rfl (Nat.le_of_ble_eq_true rfl) dX6_parse_158 ⟨Nat.zero_le _, Nat.zero_le _⟩ (fun r19 M20 J0 H locs hq hw => ?_)
          obtain ⟨hq, rfl⟩ := hq
          refine lv_if_eq (tgt := 168) hx hb dX6_parse_161 (by decide) (fun hc => ?_) (fun hc => ?_)
          · have hq := hq.1 hc
            refine lv_iconst (v := (0 : Int32)) hx hb dX6_parse_168 (by decide) ?_
            exact z_zret hQE hx hb hr hlk hw dX6_parse_169 (by decide) ⟨hq, rfl⟩
          · have hq := hq.2 hc
            refine lv_iconst (v := (1 : Int32)) hx hb dX6_parse_164 (by decide) ?_
            refine lv_goto (tgt := 169) hx hb dX6_parse_165 (by decide) ?_
            exact z_zret hQE hx hb hr hlk hw dX6_parse_169 (by decide) ⟨hq, rfl⟩
      · have hq := hq.2 hc
        exact jn134  _ _ _ hq hw (lv_sub hl [0] rfl)
  obtain ⟨fu14, hq⟩ := hq
  have lp14 : ∀ (fu14 : Nat) (x5 : Int32) (x6 : Int32) (x7 : Int32) (x8 : Int32) (M9 : zM) (H : Heap) (locs : List Loc) (ls : Array Slot), lpX6_parse_14 o0 o1 Q (fun x10 x11 x12 x13 M14 => ((¬ x10 = 0) → ( jnX6_parse_134 o0 M14 Q )) ∧ ((x10 = 0) → ( ((¬ (M14 o1 0) = 0) → ( (((3 : Int32) ≤ (M14 o1 0)) → ( Q (1 : Int32) M14)) ∧ ((¬ (3 : Int32) ≤ (M14 o1 0)) → ( wX6_fail M14 o0 (4 : Int32) (M14 o0 0) (fun r19 M20 => ((r19 = 0) → ( Q (0 : Int32) M20)) ∧ ((¬ r19 = 0) → ( Q (1 : Int32) M20))))))) ∧ (((M14 o1 0) = 0) → ( jnX6_parse_134 o0 M14 Q ))))) fu14 x5 x6 x7 x8 M9 → zH D Y ad kd RL M9 J A s.heap H locs s → lv_has ls 7 [(0, .ref (ad o0)), (1, .ref (ad o1)), (2, .int x5), (3, .int x6), (4, .int x7), (5, .int x8)] → W p l e rmX6_parse s m ar below meth c H locs 0 0 QE (F0 m 14 ls []) := by
    intro fu14
    induction fu14 with
    | zero => intro x5 x6 x7 x8 M9 H locs ls hq; exact hq.elim
    | succ fu14 ih14 =>
      intro x5 x6 x7 x8 M9 H locs ls hq hw hl
      unfold lpX6_parse_14 at hq
      refine lv_iload hx hb dX6_parse_14 (lv_at hl 5 rfl) ?_
      refine lv_aload_n hx hb dX6_parse_16 rfl (lv_at hl 0 rfl) ?_
      refine zg6_length hx hb g6 hown hw h_o0 q1 dX6_parse_17 ?_
      refine lv_icmp_ge (tgt := 123) hx hb dX6_parse_20 (by decide) (fun hc => ?_) (fun hc => ?_)
      · have hq := hq.1 hc
        exact ex14_123 x5 x6 x7 x8 M9 _ _ _ hq hw (lv_sub hl [0, 1, 2] rfl)
      · have hq := hq.2 hc
        refine lv_aload_n hx hb dX6_parse_23 rfl (lv_at hl 0 rfl) ?_
        refine lv_iload hx hb dX6_parse_24 (lv_at hl 5 rfl) ?_
        refine lv_iload_n hx hb dX6_parse_26 rfl (lv_at hl 2 rfl) ?_
        refine lv_aload_n hx hb dX6_parse_27 rfl (lv_at hl 1 rfl) ?_
        refine z_cvi ⟨hx, hb, hml, hown, hts⟩ hw h_o0 (kX6_faultAt h_o0 h_o1 hq) (by decide) rfl (cwV 3 hts gX6_parse_X6_faultAt rfl rfl rfl (by decide +kernel) ⟨Nat.le_of_ble_eq_true rfl, Nat.le_of_ble_eq_true rfl⟩) rfl hl.1 rfl (Nat.le_of_ble_eq_true rfl) dX6_parse_28 ⟨Nat.zero_le _, Nat.zero_le _⟩ (fun r21 M0 J0 H locs hq hw => ?_)
        obtain ⟨hq, rfl, rfl⟩ := hq
        refine lv_istore (lv' := [(6, .int r21), (0, .ref (ad o0)), (1, .ref (ad o1)), (2, .int x5), (3, .int x6), (4, .int x7), (5, .int x8)]) hx hb dX6_parse_31 hl (by decide) rfl (fun ls hl => ?_)
        refine lv_iload hx hb dX6_parse_33 (lv_at hl 0 rfl) ?_
        refine lv_if_eq (tgt := 47) hx hb dX6_parse_35 (by decide) (fun hc => ?_) (fun hc => ?_)
        · have hq := hq.1 hc
          refine lv_iload_n hx hb dX6_parse_47 rfl (lv_at hl 3 rfl) ?_
          have jn99 : ∀ (x26 : Int32) (x27 : Int32) (M28 : zM) (H : Heap) (locs : List Loc) (ls : Array Slot), jnX6_parse_99 o0 x5 x8 (lpX6_parse_14 o0 o1 Q (fun x10 x11 x12 x13 M14 => ((¬ x10 = 0) → ( jnX6_parse_134 o0 M14 Q )) ∧ ((x10 = 0) → ( ((¬ (M14 o1 0) = 0) → ( (((3 : Int32) ≤ (M14 o1 0)) → ( Q (1 : Int32) M14)) ∧ ((¬ (3 : Int32) ≤ (M14 o1 0)) → ( wX6_fail M14 o0 (4 : Int32) (M14 o0 0) (fun r19 M20 => ((r19 = 0) → ( Q (0 : Int32) M20)) ∧ ((¬ r19 = 0) → ( Q (1 : Int32) M20))))))) ∧ (((M14 o1 0) = 0) → ( jnX6_parse_134 o0 M14 Q ))))) fu14) x26 x27 M28 → zH D Y ad kd RL M28 J A s.heap H locs s → lv_has ls 7 [(0, .ref (ad o0)), (1, .ref (ad o1)), (2, .int x5), (3, .int x26), (4, .int x27), (5, .int x8)] → W p l e rmX6_parse s m ar below meth c H locs 0 0 QE (F0 m 99 ls []) := by
            intro x26 x27 M28 H locs ls hq hw hl
            unfold jnX6_parse_99 at hq
            refine lv_iload_n hx hb dX6_parse_99 rfl (lv_at hl 2 rfl) ?_
            refine lv_iconst (v := (1 : Int32)) hx hb dX6_parse_100 (by decide) ?_
            refine lv_iadd hx hb dX6_parse_101 ?_
            refine lv_iconst (v := (5 : Int32)) hx hb dX6_parse_102 (by decide) ?_
            refine lv_irem hx hb dX6_parse_103 (by decide) ?_
            refine lv_topi (fun x29 e_x29 => ?_)
            have hq := hq x29 e_x29
            refine lv_istore_n (lv' := [(2, .int x29), (0, .ref (ad o0)), (1, .ref (ad o1)), (3, .int x26), (4, .int x27), (5, .int x8)]) hx hb dX6_parse_104 rfl hl (by decide) rfl (fun ls hl => ?_)
            refine lv_iload hx hb dX6_parse_105 (lv_at hl 5 rfl) ?_
            refine lv_iconst (v := (1 : Int32)) hx hb dX6_parse_107 (by decide) ?_
            refine lv_aload_n hx hb dX6_parse_108 rfl (lv_at hl 1 rfl) ?_
            refine lv_iload hx hb dX6_parse_109 (lv_at hl 5 rfl) ?_
            refine z_cvi ⟨hx, hb, hml, hown, hts⟩ hw h_o0 (kX6_figuresAt h_o0 hq) (by decide) rfl (cwV 1 hts gX6_parse_X6_figuresAt rfl rfl rfl (by decide +kernel) ⟨Nat.le_of_ble_eq_true rfl, Nat.le_of_ble_eq_true rfl⟩) rfl hl.1 rfl (Nat.le_of_ble_eq_true rfl) dX6_parse_111 ⟨Nat.zero_le _, Nat.zero_le _⟩ (fun r30 M0 J0 H locs hq hw => ?_)
            obtain ⟨hq, rfl, rfl⟩ := hq
            refine va_mmax hx hb (hml.trans hl.1.symm) hown q3 q4 q5 q6 (Nat.le_of_ble_eq_true rfl) (Nat.le_of_ble_eq_true rfl) (Nat.zero_le _) (Nat.zero_le _) dX6_parse_114 ?_
            refine lv_iadd hx hb dX6_parse_117 ?_
            refine lv_istore (lv' := [(5, .int (x8 + (zmax (1 : Int32) r30))), (2, .int x29), (0, .ref (ad o0)), (1, .ref (ad o1)), (3, .int x26), (4, .int x27)]) hx hb dX6_parse_118 hl (by decide) rfl (fun ls hl => ?_)
            refine lv_goto (tgt := 14) hx hb dX6_parse_120 (by decide) ?_
            exact ih14 x29 x26 x27 (x8 + (zmax (1 : Int32) r30)) M28 _ _ _ hq hw (lv_sub hl [2, 3, 1, 4, 5, 0] rfl)
          refine lv_if_ne (tgt := 65) hx hb dX6_parse_48 (by decide) (fun hc => ?_) (fun hc => ?_)
          · have hq := hq.1 hc
            refine lv_iload_n hx hb dX6_parse_65 rfl (lv_at hl 3 rfl) ?_
            refine lv_iconst (v := (1 : Int32)) hx hb dX6_parse_66 (by decide) ?_
            refine lv_icmp_ne (tgt := 81) hx hb dX6_parse_67 (by decide) (fun hc => ?_) (fun hc => ?_)
            · have hq := hq.1 hc
              refine lv_iload_n hx hb dX6_parse_81 rfl (lv_at hl 3 rfl) ?_
              refine lv_iconst (v := (3 : Int32)) hx hb dX6_parse_82 (by decide) ?_
              refine lv_icmp_ne (tgt := 99) hx hb dX6_parse_83 (by decide) (fun hc => ?_) (fun hc => ?_)
              · have hq := hq.1 hc
                exact jn99 x6 x7 M9 _ _ _ hq hw (lv_sub hl [1, 2, 3, 4, 5, 6] rfl)
              · have hq := hq.2 hc
                refine lv_aload_n hx hb dX6_parse_86 rfl (lv_at hl 2 rfl) ?_
                refine lv_iload_n hx hb dX6_parse_87 rfl (lv_at hl 4 rfl) ?_
                refine lv_iload hx hb dX6_parse_88 (lv_at hl 5 rfl) ?_
                refine lv_aload_n hx hb dX6_parse_90 rfl (lv_at hl 1 rfl) ?_
                refine lv_iload hx hb dX6_parse_91 (lv_at hl 6 rfl) ?_
                refine z_cvi ⟨hx, hb, hml, hown, hts⟩ hw h_o0 (kX6_numberAt h_o0 hq) (by decide) rfl (cwV 1 hts gX6_parse_X6_numberAt rfl rfl rfl (by decide +kernel) ⟨Nat.le_of_ble_eq_true rfl, Nat.le_of_ble_eq_true rfl⟩) rfl hl.1 rfl (Nat.le_of_ble_eq_true rfl) dX6_parse_93 ⟨Nat.zero_le _, Nat.zero_le _⟩ (fun r31 M0 J0 H locs hq hw => ?_)
                obtain ⟨hq, rfl, rfl⟩ := hq
                refine z_cvv ⟨hx, hb, hml, hown, hts⟩ hw h_o1 (kX2_add h_o1 hq) (by decide) rfl (cwV 3 hts gX6_parse_X2_add rfl rfl rfl (by decide +kernel) ⟨Nat.le_of_ble_eq_true rfl, Nat.le_of_ble_eq_true rfl⟩) rfl hl.1 rfl (Nat.le_of_ble_eq_true rfl) dX6_parse_96 ⟨Nat.zero_le _, Nat.zero_le _⟩ (fun M32 J0 H locs hq hw => ?_)
                obtain ⟨hq, rfl⟩ := hq
                exact jn99 x6 x7 M32 _ _ _ hq hw (lv_sub hl [1, 2, 3, 4, 5, 6] rfl)
            · have hq := hq.2 hc
              refine lv_aload_n hx hb dX6_parse_70 rfl (lv_at hl 1 rfl) ?_
              refine lv_iload hx hb dX6_parse_71 (lv_at hl 6 rfl) ?_
              refine z_cvi ⟨hx, hb, hml, hown, hts⟩ hw h_o0 (kX6_numberAt h_o0 hq) (by decide) rfl (cwV 1 hts gX6_parse_X6_numberAt rfl rfl rfl (by decide +kernel) ⟨Nat.le_of_ble_eq_true rfl, Nat.le_of_ble_eq_true rfl⟩) rfl hl.1 rfl (Nat.le_of_ble_eq_true rfl) dX6_parse_73 ⟨Nat.zero_le _, Nat.zero_le _⟩ (fun r33 M0 J0 H locs hq hw => ?_)
              obtain ⟨hq, rfl, rfl⟩ := hq
              refine lv_istore (lv' := [(4, .int r33), (6, .int r21), (0, .ref (ad o0)), (1, .ref (ad o1)), (2, .int x5), (3, .int x6), (5, .int x8)]) hx hb dX6_parse_76 hl (by decide) rfl (fun ls hl => ?_)
              refine lv_goto (tgt := 99) hx hb dX6_parse_78 (by decide) ?_
              exact jn99 x6 r33 M9 _ _ _ hq hw (lv_sub hl [2, 3, 4, 5, 0, 6] rfl)
          · have hq := hq.2 hc
            refine lv_aload_n hx hb dX6_parse_51 rfl (lv_at hl 1 rfl) ?_
            refine zg6_bytes hx hb g6 hown hw h_o0 q2 dX6_parse_52 ?_
            refine lv_iload hx hb dX6_parse_55 (lv_at hl 6 rfl) ?_
            obtain ⟨hi, hq⟩ := hq
            refine z_iald (n := 120) hx hb hw (zk_6_1 hC h_o0) hi dX6_parse_57 ?_
            refine z_csi ⟨hx, hb, hml, hown, hts⟩ hw (kX6_kindOf  hq) (va_cwS 1 hts gX6_parse_X6_kindOf rfl rfl rfl (by decide +kernel) ⟨Nat.le_of_ble_eq_true rfl, Nat.le_of_ble_eq_true rfl⟩) rfl hl.1 rfl (Nat.le_of_ble_eq_true rfl) dX6_parse_58 ⟨Nat.zero_le _, Nat.zero_le _⟩ (fun r34 M0 J0 H locs hq hw => ?_)
            obtain ⟨hq, rfl, rfl⟩ := hq
            refine lv_istore_n (lv' := [(3, .int r34), (6, .int r21), (0, .ref (ad o0)), (1, .ref (ad o1)), (2, .int x5), (4, .int x7), (5, .int x8)]) hx hb dX6_parse_61 rfl hl (by decide) rfl (fun ls hl => ?_)
            refine lv_goto (tgt := 99) hx hb dX6_parse_62 (by decide) ?_
            exact jn99 r34 x7 M9 _ _ _ hq hw (lv_sub hl [2, 3, 4, 0, 5, 6] rfl)
        · have hq := hq.2 hc
          refine lv_aload_n hx hb dX6_parse_38 rfl (lv_at hl 1 rfl) ?_
          refine lv_iload hx hb dX6_parse_39 (lv_at hl 0 rfl) ?_
          refine lv_iload hx hb dX6_parse_41 (lv_at hl 6 rfl) ?_
          refine z_cvi ⟨hx, hb, hml, hown, hts⟩ hw h_o0 (kX6_fail h_o0 hq) (by decide) rfl (cwV 2 hts gX6_parse_X6_fail rfl rfl rfl (by decide +kernel) ⟨Nat.le_of_ble_eq_true rfl, Nat.le_of_ble_eq_true rfl⟩) rfl hl.1 rfl (Nat.le_of_ble_eq_true rfl) dX6_parse_43 ⟨Nat.zero_le _, Nat.zero_le _⟩ (fun r35 M36 J0 H locs hq hw => ?_)
          obtain ⟨hq, rfl⟩ := hq
          obtain ⟨hn, hq⟩ := hq
          exact z_zret hQE hx hb hr hlk hw dX6_parse_46 hn ⟨hq, rfl⟩
  exact lp14 fu14 (0 : Int32) (0 : Int32) (0 : Int32) (0 : Int32) M4 _ _ _ hq hw (lv_sub hl [4, 5, 3, 2, 1, 0] rfl)
