theorem dX1_forget_0 : decode cX1_forget 0 = .ok (.aload_n 0, 1) := by decide +kernel
theorem dX1_forget_1 : decode cX1_forget 1 = .ok (.iconst 0, 1) := by decide +kernel
theorem dX1_forget_2 : decode cX1_forget 2 = .ok (.putfield 17, 3) := by decide +kernel
theorem dX1_forget_5 : decode cX1_forget 5 = .ok (.return_, 1) := by decide +kernel
def rmX1_forget : Room := { frames := 0, cells := 0, slots := 0, locals := 0 }
def wX1_forget (M : zM) (o0 : Nat) (Q : zM → Prop) : Prop :=
    ∀ M3 : zM, M3 = va_up M o0 (upd (M o0) 0 (0 : Int32)) →
    Q M3
set_option maxHeartbeats 4000000 in
set_option maxRecDepth 100000 in
theorem kX1_forget {l : Launch} {D : va_G} {Y : zY} {ad kd : Nat → Nat} {RL : List Nat} {M : zM} {J : zL} {o0 : Nat} (h_o0 : kd o0 = 1) {Q : zM → Prop} (hq : wX1_forget M o0 Q) : zCv l yX1_forget wsX1_forget rmX1_forget [.ref (ad o0)] D Y ad kd RL M J (fun M' J' => Q M' ∧ J = J') := by
  refine z_metv (cc := cX1_forget) (maxL := 1) (ret := none) (by decide) rfl (Nat.le_of_ble_eq_true rfl) ?_
  intro p e s m below meth c ls A ar QE hQE hx hb hr hml hown hts hlk hw hl
  have hown : s.vm.findClass RX1 = some m.cls := hown
  have hl : lv_has ls 1 [(0, .ref (ad o0))] := hl
  have hC := hw.2.2.2.2.2.1
  have g1 : ∀ w ∈ wsX10, w.before ar s = true := (fun w h => hts w (List.mem_cons_of_mem _ (List.mem_append_right _ h)))
  have q1 := hts _ (List.mem_of_getElem? (i := 1) rfl)
  unfold wX1_forget at hq
  refine lv_aload_n hx hb dX1_forget_0 rfl (lv_at hl 0 rfl) ?_
  refine lv_iconst (v := (0 : Int32)) hx hb dX1_forget_1 (by decide) ?_
  refine zp1_held hx hb g1 hown hw h_o0 q1 dX1_forget_2 (fun H locs hw => ?_)
  obtain ⟨M3, e_M3⟩ : ∃ y : zM, y = va_up M o0 (upd (M o0) 0 (0 : Int32)) := ⟨_, rfl⟩
  rw [← e_M3] at hw
  have hq := hq M3 e_M3
  exact z_vret hQE hx hb hr hlk hw dX1_forget_5 ⟨hq, rfl⟩
